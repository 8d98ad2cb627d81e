import java.util.Arrays;
import java.util.NoSuchElementException;

/** Draws rows (who did what to whom) from sentences, by rules told in a text. */
public final class RowDrawer {
    public static final int NONE = -1;

    private static final int WORDS = 100;
    private static final int SORTS = 10;
    private static final int RELATIONS = 10;
    private static final int SENTENCES = 40;
    private static final int PLACES = 16;
    private static final int SIGNS = 1200;
    private static final int RULES = 12;
    private static final int ITEMS = 10;
    private static final int BARS = 10;
    private static final int CHAINS = 6;
    private static final int MARKS = 60;

    // What an ITEM or a SPEC asks of a word; the first three are the document's numbers.
    private static final int THAT_WORD = 0;
    private static final int THAT_SORT = 1;
    private static final int ANY = 2;
    private static final int SOME = 3;

    private static final int LEFT = 1;
    private static final int RIGHT = 2;

    private final Lexicon lexicon;
    private final Sentences sentences;
    private final Tape tape;
    private final Reader reader;
    private final Book book;
    private final Finder finder;
    private final Table table;
    private final Marks marks;
    private final BestSet chooser;
    private final Lesson lesson;

    public RowDrawer() {
        lexicon = new Lexicon();
        sentences = new Sentences();
        tape = new Tape();
        reader = new Reader(tape);
        book = new Book();
        finder = new Finder(lexicon, sentences, book);
        table = new Table(lexicon, sentences, book, finder);
        marks = new Marks(sentences, book, finder);
        chooser = new BestSet();
        lesson = new Lesson(lexicon, sentences, marks);
    }

    public boolean sort(int word, int s) {
        if (!lexicon.setSort(word, s)) {
            return false;
        }
        finder.forgetThoseWith(word);
        table.forget();
        return true;
    }

    public boolean join(int word, int to) {
        if (!lexicon.link(word, to)) {
            return false;
        }
        table.forget();
        return true;
    }

    public int word(int w) {
        return Lexicon.has(w) ? sentences.tell(w) : NONE;
    }

    public int sentence() {
        int number = sentences.close();
        if (number != NONE) {
            finder.forget(number);
            table.forget();
        }
        return number;
    }

    public boolean take(int sentence) {
        if (!sentences.remove(sentence)) {
            return false;
        }
        finder.forget(sentence);
        table.forget();
        return true;
    }

    public int feed(long a, long b, long c) {
        tape.put(a);
        tape.put(b);
        tape.put(c);
        return tape.length();
    }

    public int text() {
        int fault = reader.read();
        if (fault == 0) {
            book.become(reader.draft());
            finder.forgetAll();
            table.forget();
        }
        return fault;
    }

    public int finds() {
        finder.refresh();
        return finder.total(false);
    }

    public int find(int i, int what) {
        finder.refresh();
        return finder.tellOf(i, what);
    }

    public int rows(int r) {
        if (!isRelation(r)) {
            return NONE;
        }
        finder.refresh();
        table.refresh();
        return table.size(r);
    }

    public int row(int r, int i, int what) {
        if (!isRelation(r) || i < 0 || what < 0 || what > 1) {
            return NONE;
        }
        finder.refresh();
        table.refresh();
        return table.name(r, i, what == 0);
    }

    public int quarrel(int r, int i) {
        if (!book.isSingle(r) || i < 0) {
            return NONE;
        }
        finder.refresh();
        table.refresh();
        return table.quarrelling(r, i);
    }

    public int mark(int sentence, int left, int right, int r, boolean isRight) {
        if (!sentences.isThere(sentence) || !isRelation(r)) {
            return NONE;
        }
        int length = sentences.lengthOf(sentence);
        if (left < 0 || left >= length || right < 0 || right >= length || left == right) {
            return NONE;
        }
        return marks.put(sentence, left, right, r, isRight);
    }

    public int rule(int rule, int what) throws NoSuchElementException {
        if (!book.hasRule(rule) || what < 0 || what > 5) {
            throw new NoSuchElementException("no such rule, or nothing such to tell of it");
        }
        finder.refresh();
        switch (what) {
            case 0:
                return book.relationOf(rule);
            case 1:
                return Long.bitCount(marks.caughtBy(rule, true));
            case 2:
                return Long.bitCount(marks.caughtBy(rule, false));
            case 3:
                return marks.shareOf(rule);
            case 4:
                return book.itemsOf(rule);
            default:
                return finder.totalOfRule(rule);
        }
    }

    public int best(int m) {
        if (m < 0 || m > MARKS) {
            return NONE;
        }
        finder.refresh();
        int rules = book.rules();
        for (int k = 0; k < rules; k++) {
            chooser.setCaught(k, marks.caughtBy(k, true), marks.caughtBy(k, false));
        }
        return chooser.choose(rules, m);
    }

    public int learn(int r) {
        return isRelation(r) ? lesson.study(r) : NONE;
    }

    public int learnt(int i, int what) {
        return lesson.tellOf(i, what);
    }

    public int catches(boolean isRight) {
        return lesson.caught(isRight);
    }

    public int named(int word) {
        return lexicon.nameOf(word);
    }

    public int count(int what) {
        switch (what) {
            case 0:
                return sentences.came();
            case 1:
                return sentences.present();
            case 2:
                return book.rules();
            case 3:
                return book.bars();
            case 4:
                return book.chains();
            case 5:
                return marks.size();
            case 6:
                return tape.length();
            case 7:
                return sentences.told();
            case 8:
                finder.refresh();
                return finder.total(true);
            default:
                return NONE;
        }
    }

    private static boolean isRelation(int r) {
        return r >= 0 && r < RELATIONS;
    }

    /** Every word's sort, and the word to which it is joined. */
    private static final class Lexicon {
        private final int[] sorts = new int[WORDS + 1];
        // 0, which is no word, stands for "joined to none".
        private final int[] joinedTo = new int[WORDS + 1];

        static boolean has(int word) {
            return word >= 1 && word <= WORDS;
        }

        boolean setSort(int word, int s) {
            if (!has(word) || s < 0 || s >= SORTS) {
                return false;
            }
            sorts[word] = s;
            return true;
        }

        int sortOf(int word) {
            return has(word) ? sorts[word] : NONE;
        }

        boolean link(int word, int to) {
            if (!has(word) || !has(to)) {
                return false;
            }
            if (word == to) {
                joinedTo[word] = 0;
                return true;
            }
            if (leadsTo(to, word)) {
                return false;
            }
            joinedTo[word] = to;
            return true;
        }

        // The whole way is walked, since the goal may itself be joined to a further word.
        private boolean leadsTo(int from, int goal) {
            int at = from;
            for (int step = 0; step < WORDS && has(at); step++) {
                if (at == goal) {
                    return true;
                }
                at = joinedTo[at];
            }
            return false;
        }

        int nameOf(int word) {
            if (!has(word)) {
                return NONE;
            }
            int name = word;
            for (int step = 0; step < WORDS && has(joinedTo[name]); step++) {
                name = joinedTo[name];
            }
            return name;
        }

        boolean fits(int kind, int number, int word) {
            switch (kind) {
                case THAT_WORD:
                    return word == number;
                case THAT_SORT:
                    return word >= 1 && word <= WORDS && sorts[word] == number;
                default:
                    return true;
            }
        }
    }

    /** The sentences that came, and the words told for the next one. */
    private static final class Sentences {
        private final int[] words = new int[SENTENCES * PLACES];
        private final int[] lengths = new int[SENTENCES];
        private final boolean[] there = new boolean[SENTENCES];
        private final int[] toldWords = new int[PLACES];
        private int told;
        private int came;
        private int present;

        int tell(int word) {
            if (told >= PLACES) {
                return NONE;
            }
            toldWords[told] = word;
            told++;
            return told;
        }

        int close() {
            if (told == 0 || came >= SENTENCES) {
                return NONE;
            }
            int number = came;
            System.arraycopy(toldWords, 0, words, number * PLACES, told);
            lengths[number] = told;
            there[number] = true;
            told = 0;
            came++;
            present++;
            return number;
        }

        boolean remove(int s) {
            if (!isThere(s)) {
                return false;
            }
            there[s] = false;
            present--;
            return true;
        }

        boolean isThere(int s) {
            return s >= 0 && s < came && there[s];
        }

        int lengthOf(int s) {
            return s >= 0 && s < came ? lengths[s] : 0;
        }

        // 0, which is no word, where there is no such place.
        int wordAt(int s, int place) {
            boolean isPlace = s >= 0 && s < came && place >= 0 && place < lengths[s];
            return isPlace ? words[s * PLACES + place] : 0;
        }

        int told() {
            return told;
        }

        int came() {
            return came;
        }

        int present() {
            return present;
        }
    }

    /** The signs that were fed and not yet read. */
    private static final class Tape {
        private final char[] signs = new char[SIGNS];
        private int length;

        void put(long eight) {
            for (int shift = 56; shift >= 0; shift -= 8) {
                int sign = (int) (eight >>> shift) & 255;
                if (isKnown(sign) && length < SIGNS) {
                    signs[length] = (char) sign;
                    length++;
                }
            }
        }

        private static boolean isKnown(int sign) {
            return sign == 10 || sign >= 32 && sign <= 126;
        }

        int length() {
            return length;
        }

        // Sign 0, which never comes on the tape, stands for "beyond its end".
        char at(int place) {
            return place >= 0 && place < length ? signs[place] : (char) 0;
        }

        void clear() {
            length = 0;
        }
    }

    /** What a text told: rules, bars, chains and single ones. */
    private static final class Book {
        private int rules;
        private final int[] relations = new int[RULES];
        private final int[] items = new int[RULES];
        private final int[] lefts = new int[RULES];
        private final int[] rights = new int[RULES];
        private final int[] kinds = new int[RULES * ITEMS];
        private final int[] numbers = new int[RULES * ITEMS];
        private int bars;
        private final int[] barWords = new int[BARS];
        private int chains;
        private final int[] chainGoals = new int[CHAINS];
        private final int[] chainFirsts = new int[CHAINS];
        private final int[] chainSeconds = new int[CHAINS];
        // Bit r for a single R.
        private int singles;

        void clear() {
            rules = 0;
            bars = 0;
            chains = 0;
            singles = 0;
        }

        void become(Book other) {
            rules = other.rules;
            bars = other.bars;
            chains = other.chains;
            singles = other.singles;
            System.arraycopy(other.relations, 0, relations, 0, RULES);
            System.arraycopy(other.items, 0, items, 0, RULES);
            System.arraycopy(other.lefts, 0, lefts, 0, RULES);
            System.arraycopy(other.rights, 0, rights, 0, RULES);
            System.arraycopy(other.kinds, 0, kinds, 0, RULES * ITEMS);
            System.arraycopy(other.numbers, 0, numbers, 0, RULES * ITEMS);
            System.arraycopy(other.barWords, 0, barWords, 0, BARS);
            System.arraycopy(other.chainGoals, 0, chainGoals, 0, CHAINS);
            System.arraycopy(other.chainFirsts, 0, chainFirsts, 0, CHAINS);
            System.arraycopy(other.chainSeconds, 0, chainSeconds, 0, CHAINS);
        }

        // A rule is filled as the one behind the last, and counts once it is closed.
        void openRule(int r) {
            if (rules < RULES) {
                relations[rules] = r;
                items[rules] = 0;
                lefts[rules] = NONE;
                rights[rules] = NONE;
            }
        }

        boolean openRuleHas(int role) {
            if (rules >= RULES) {
                return false;
            }
            return (role == LEFT ? lefts[rules] : rights[rules]) != NONE;
        }

        void addItem(int kind, int number, int role) {
            if (rules >= RULES || items[rules] >= ITEMS) {
                return;
            }
            int item = items[rules];
            kinds[rules * ITEMS + item] = kind;
            numbers[rules * ITEMS + item] = number;
            if (role == LEFT) {
                lefts[rules] = item;
            } else if (role == RIGHT) {
                rights[rules] = item;
            }
            items[rules]++;
        }

        void closeRule() {
            if (rules < RULES) {
                rules++;
            }
        }

        void addBar(int word) {
            if (bars < BARS) {
                barWords[bars] = word;
                bars++;
            }
        }

        void addChain(int goal, int first, int second) {
            if (chains < CHAINS) {
                chainGoals[chains] = goal;
                chainFirsts[chains] = first;
                chainSeconds[chains] = second;
                chains++;
            }
        }

        void addSingle(int r) {
            if (isRelation(r)) {
                singles |= 1 << r;
            }
        }

        int rules() {
            return rules;
        }

        int bars() {
            return bars;
        }

        int chains() {
            return chains;
        }

        boolean hasRule(int k) {
            return k >= 0 && k < rules;
        }

        int relationOf(int k) {
            return hasRule(k) ? relations[k] : NONE;
        }

        int itemsOf(int k) {
            return hasRule(k) ? items[k] : 0;
        }

        int leftItem(int k) {
            return hasRule(k) ? lefts[k] : NONE;
        }

        int rightItem(int k) {
            return hasRule(k) ? rights[k] : NONE;
        }

        int kindOf(int k, int item) {
            return hasItem(k, item) ? kinds[k * ITEMS + item] : NONE;
        }

        int numberOf(int k, int item) {
            return hasItem(k, item) ? numbers[k * ITEMS + item] : 0;
        }

        private boolean hasItem(int k, int item) {
            return k >= 0 && k < rules && item >= 0 && item < items[k];
        }

        boolean isBarred(int word) {
            for (int b = 0; b < bars && b < BARS; b++) {
                if (barWords[b] == word) {
                    return true;
                }
            }
            return false;
        }

        int chainGoal(int c) {
            return c >= 0 && c < chains ? chainGoals[c] : NONE;
        }

        int chainFirst(int c) {
            return c >= 0 && c < chains ? chainFirsts[c] : NONE;
        }

        int chainSecond(int c) {
            return c >= 0 && c < chains ? chainSeconds[c] : NONE;
        }

        boolean isSingle(int r) {
            return isRelation(r) && (singles >> r & 1) != 0;
        }
    }

    /** The tokens of a tape, each with its place, and the one that is at hand. */
    private static final class Tokens {
        // What a token is; a number is its own value, and so none of these.
        private static final int END = -1;
        private static final int BAD = -2;
        private static final int COLON = -3;
        private static final int EQUAL = -4;
        private static final int SEMICOLON = -5;
        private static final int RULE = -6;
        private static final int BAR = -7;
        private static final int CHAIN = -8;
        private static final int SINGLE = -9;
        private static final int TO_LEFT = -10;
        private static final int TO_RIGHT = -11;
        private static final int SOME_WORDS = -12;
        private static final int WORD = -13;
        private static final int SORT = -14;
        private static final int ANY_WORD = -15;

        private static final int DIGITS = 4;

        private final int[] codes = new int[SIGNS + 1];
        private final int[] places = new int[SIGNS + 1];
        private int size;
        private int current;

        void scan(Tape tape) {
            size = 0;
            current = 0;
            for (int at = 0; at < tape.length(); at++) {
                if (!isBlank(tape.at(at)) && !goesOn(tape, at)) {
                    add(codeAt(tape, at), at);
                }
            }
            add(END, tape.length());
        }

        private void add(int code, int place) {
            if (size <= SIGNS) {
                codes[size] = code;
                places[size] = place;
                size++;
            }
        }

        int code() {
            return current < size && current <= SIGNS ? codes[current] : END;
        }

        int place() {
            return current < size && current <= SIGNS ? places[current] : 0;
        }

        void advance() {
            if (current < size) {
                current++;
            }
        }

        private static boolean goesOn(Tape tape, int at) {
            char ahead = tape.at(at - 1);
            char sign = tape.at(at);
            return isLetter(ahead) && isLetter(sign) || isDigit(ahead) && isDigit(sign);
        }

        private static int codeAt(Tape tape, int at) {
            if (isDigit(tape.at(at))) {
                return numberCode(tape, at);
            }
            int sign = tape.at(at);
            switch (sign) {
                case ':':
                    return COLON;
                case '=':
                    return EQUAL;
                case ';':
                    return SEMICOLON;
                default:
                    return wordCode(tape, at);
            }
        }

        private static int numberCode(Tape tape, int at) {
            int value = 0;
            for (int n = 0; n <= DIGITS; n++) {
                char sign = tape.at(at + n);
                if (!isDigit(sign)) {
                    return value;
                }
                value = value * 10 + (sign - '0');
            }
            return BAD;
        }

        // A word that is none of these can stand nowhere, and so is as bad as one that is too long.
        private static int wordCode(Tape tape, int at) {
            int first = tape.at(at);
            switch (first) {
                case 'a':
                    return stands(tape, at, "any") ? ANY_WORD : BAD;
                case 'b':
                    return stands(tape, at, "bar") ? BAR : BAD;
                case 'c':
                    return stands(tape, at, "chain") ? CHAIN : BAD;
                case 'l':
                    return stands(tape, at, "left") ? TO_LEFT : BAD;
                case 'r':
                    return stands(tape, at, "rule") ? RULE : stands(tape, at, "right") ? TO_RIGHT : BAD;
                case 's':
                    return sWordCode(tape, at);
                case 'w':
                    return stands(tape, at, "word") ? WORD : BAD;
                default:
                    return BAD;
            }
        }

        private static int sWordCode(Tape tape, int at) {
            if (stands(tape, at, "some")) {
                return SOME_WORDS;
            }
            if (stands(tape, at, "sort")) {
                return SORT;
            }
            return stands(tape, at, "single") ? SINGLE : BAD;
        }

        private static boolean stands(Tape tape, int at, String word) {
            for (int i = 0; i < word.length(); i++) {
                if (tape.at(at + i) != word.charAt(i)) {
                    return false;
                }
            }
            return !isLetter(tape.at(at + word.length()));
        }

        private static boolean isBlank(char sign) {
            return sign == 10 || sign == 32;
        }

        private static boolean isLetter(char sign) {
            return sign >= 'a' && sign <= 'z';
        }

        private static boolean isDigit(char sign) {
            return sign >= '0' && sign <= '9';
        }
    }

    /** Reads the tape as a text, into a draft that counts only if there is no fault. */
    private static final class Reader {
        private static final int MISPLACED = 1;
        private static final int OUT_OF_RANGE = 4;
        private static final int TOO_MANY = 5;

        private final Tape tape;
        private final Tokens tokens = new Tokens();
        private final Book draft = new Book();
        private int fault;

        Reader(Tape tape) {
            this.tape = tape;
        }

        Book draft() {
            return draft;
        }

        int read() {
            tokens.scan(tape);
            tape.clear();
            draft.clear();
            fault = 0;
            // A statement that is no fault takes a sign at least.
            for (int n = 0; n < SIGNS && fault == 0 && tokens.code() != Tokens.END; n++) {
                switch (tokens.code()) {
                    case Tokens.RULE:
                        readRule();
                        break;
                    case Tokens.BAR:
                        readBar();
                        break;
                    case Tokens.CHAIN:
                        readChain();
                        break;
                    case Tokens.SINGLE:
                        readSingle();
                        break;
                    default:
                        fail(MISPLACED);
                        break;
                }
            }
            return fault;
        }

        private void readRule() {
            if (draft.rules() >= RULES) {
                fail(TOO_MANY);
                return;
            }
            tokens.advance();
            int r = readNumber(0, RELATIONS - 1);
            if (r == NONE || !readSign(Tokens.COLON)) {
                return;
            }
            draft.openRule(r);
            for (int n = 0; n <= ITEMS && tokens.code() != Tokens.SEMICOLON; n++) {
                if (!readItem(n)) {
                    return;
                }
            }
            if (!draft.openRuleHas(LEFT) || !draft.openRuleHas(RIGHT)) {
                fail(MISPLACED);
            } else if (readSign(Tokens.SEMICOLON)) {
                draft.closeRule();
            }
        }

        private boolean readItem(int itemsAhead) {
            int code = tokens.code();
            int role = code == Tokens.TO_LEFT ? LEFT : code == Tokens.TO_RIGHT ? RIGHT : 0;
            if (role != 0 ? draft.openRuleHas(role) : code != Tokens.SOME_WORDS && !isSpec(code)) {
                return fail(MISPLACED);
            }
            if (itemsAhead >= ITEMS) {
                return fail(TOO_MANY);
            }
            if (code == Tokens.SOME_WORDS) {
                tokens.advance();
                draft.addItem(SOME, 0, 0);
                return true;
            }
            if (role != 0) {
                tokens.advance();
            }
            return readSpec(role);
        }

        private static boolean isSpec(int code) {
            return code == Tokens.WORD || code == Tokens.SORT || code == Tokens.ANY_WORD;
        }

        private boolean readSpec(int role) {
            int code = tokens.code();
            if (!isSpec(code)) {
                return fail(MISPLACED);
            }
            tokens.advance();
            if (code == Tokens.ANY_WORD) {
                draft.addItem(ANY, 0, role);
                return true;
            }
            boolean isWord = code == Tokens.WORD;
            int number = isWord ? readNumber(1, WORDS) : readNumber(0, SORTS - 1);
            if (number == NONE) {
                return false;
            }
            draft.addItem(isWord ? THAT_WORD : THAT_SORT, number, role);
            return true;
        }

        private void readBar() {
            if (draft.bars() >= BARS) {
                fail(TOO_MANY);
                return;
            }
            tokens.advance();
            int word = readNumber(1, WORDS);
            if (word != NONE && readSign(Tokens.SEMICOLON)) {
                draft.addBar(word);
            }
        }

        private void readChain() {
            if (draft.chains() >= CHAINS) {
                fail(TOO_MANY);
                return;
            }
            tokens.advance();
            int goal = readNumber(0, RELATIONS - 1);
            if (goal == NONE || !readSign(Tokens.EQUAL)) {
                return;
            }
            int first = readNumber(0, RELATIONS - 1);
            if (first == NONE) {
                return;
            }
            int second = readNumber(0, RELATIONS - 1);
            if (second != NONE && readSign(Tokens.SEMICOLON)) {
                draft.addChain(goal, first, second);
            }
        }

        private void readSingle() {
            tokens.advance();
            int r = readNumber(0, RELATIONS - 1);
            if (r != NONE && readSign(Tokens.SEMICOLON)) {
                draft.addSingle(r);
            }
        }

        private int readNumber(int least, int most) {
            int value = tokens.code();
            if (value < 0) {
                fail(MISPLACED);
                return NONE;
            }
            if (value < least || value > most) {
                fail(OUT_OF_RANGE);
                return NONE;
            }
            tokens.advance();
            return value;
        }

        private boolean readSign(int code) {
            if (tokens.code() != code) {
                return fail(MISPLACED);
            }
            tokens.advance();
            return true;
        }

        // Answers false, for the caller to hand on.
        private boolean fail(int kind) {
            fault = kind + 16 * tokens.place();
            return false;
        }
    }

    /** The finds, kept by sentence and drawn anew only for a sentence whose finds may have changed. */
    private static final class Finder {
        private static final int SOME_WORDS = -1;

        private final Lexicon lexicon;
        private final Sentences sentences;
        private final Book book;
        // By sentence, rule and left place: bit p for right place p.
        private final int[] rights = new int[SENTENCES * RULES * PLACES];
        private final int[] counts = new int[SENTENCES * RULES];
        private final boolean[] barred = new boolean[SENTENCES];
        private final boolean[] stale = new boolean[SENTENCES];
        // Of the rule that is being matched, by item: bit p if it fits the word at place p.
        private final int[] fitting = new int[ITEMS];

        Finder(Lexicon lexicon, Sentences sentences, Book book) {
            this.lexicon = lexicon;
            this.sentences = sentences;
            this.book = book;
        }

        void forget(int s) {
            if (s >= 0 && s < SENTENCES) {
                stale[s] = true;
            }
        }

        void forgetThoseWith(int word) {
            for (int s = 0; s < sentences.came() && s < SENTENCES; s++) {
                for (int place = 0; place < sentences.lengthOf(s) && !stale[s]; place++) {
                    stale[s] = sentences.wordAt(s, place) == word;
                }
            }
        }

        void forgetAll() {
            for (int s = 0; s < SENTENCES; s++) {
                stale[s] = true;
            }
        }

        void refresh() {
            for (int s = 0; s < sentences.came() && s < SENTENCES; s++) {
                if (stale[s]) {
                    drawSentence(s);
                    stale[s] = false;
                }
            }
        }

        private void drawSentence(int s) {
            clearSentence(s);
            if (!sentences.isThere(s)) {
                return;
            }
            barred[s] = hasBarredWord(s);
            for (int k = 0; k < book.rules() && k < RULES; k++) {
                drawRule(s, k);
                counts[s * RULES + k] = countPairs(s, k);
            }
        }

        private void clearSentence(int s) {
            barred[s] = false;
            for (int k = 0; k < RULES; k++) {
                // Where nothing was found before, there is nothing to clear.
                for (int left = 0; left < PLACES && counts[s * RULES + k] > 0; left++) {
                    rights[(s * RULES + k) * PLACES + left] = 0;
                }
                counts[s * RULES + k] = 0;
            }
        }

        private boolean hasBarredWord(int s) {
            for (int place = 0; place < sentences.lengthOf(s); place++) {
                if (book.isBarred(sentences.wordAt(s, place))) {
                    return true;
                }
            }
            return false;
        }

        // Sets of places are bits, so that all ways to match are followed at once.
        private void drawRule(int s, int k) {
            int length = sentences.lengthOf(s);
            int allPlaces = (1 << (length + 1)) - 1;
            int left = book.leftItem(k);
            int right = book.rightItem(k);
            if (left < 0 || left >= ITEMS || right < 0 || right >= ITEMS) {
                return;
            }
            fitItems(s, k);
            int first = Math.min(left, right);
            int second = Math.max(left, right);
            int firstPlaces = forward(allPlaces, 0, first, allPlaces) & fitting[first];
            int secondPlaces = backward(allPlaces, second + 1, book.itemsOf(k)) >> 1 & fitting[second];
            for (int place = 0; place < length; place++) {
                if ((firstPlaces >> place & 1) != 0) {
                    int reached = forward(1 << (place + 1), first + 1, second, allPlaces) & secondPlaces;
                    keepPairs((s * RULES + k) * PLACES, place, reached, left == first);
                }
            }
        }

        private void fitItems(int s, int k) {
            for (int item = 0; item < book.itemsOf(k) && item < ITEMS; item++) {
                int kind = book.kindOf(k, item);
                fitting[item] = kind == SOME ? SOME_WORDS : placesOf(s, kind, book.numberOf(k, item));
            }
        }

        private int placesOf(int s, int kind, int number) {
            int places = 0;
            for (int place = 0; place < sentences.lengthOf(s); place++) {
                if (lexicon.fits(kind, number, sentences.wordAt(s, place))) {
                    places |= 1 << place;
                }
            }
            return places;
        }

        // The places behind the items from..end-1, if they begin at one of the given places.
        private int forward(int places, int from, int end, int allPlaces) {
            int reached = places;
            for (int item = from; item < end && item < ITEMS; item++) {
                if (fitting[item] == SOME_WORDS) {
                    reached |= reached << 1 | reached << 2 | reached << 3;
                } else {
                    reached = (reached & fitting[item]) << 1;
                }
                reached &= allPlaces;
            }
            return reached;
        }

        // The places at which the items from..end-1 can begin, if they end at one of the given places.
        private int backward(int places, int from, int end) {
            int reached = places;
            for (int item = Math.min(end, ITEMS) - 1; item >= from; item--) {
                if (fitting[item] == SOME_WORDS) {
                    reached |= reached >> 1 | reached >> 2 | reached >> 3;
                } else {
                    reached = reached >> 1 & fitting[item];
                }
            }
            return reached;
        }

        private void keepPairs(int base, int place, int others, boolean placeIsLeft) {
            if (placeIsLeft) {
                rights[base + place] = others;
                return;
            }
            for (int left = 0; left < PLACES; left++) {
                if ((others >> left & 1) != 0) {
                    rights[base + left] |= 1 << place;
                }
            }
        }

        private int countPairs(int s, int k) {
            int pairs = 0;
            for (int left = 0; left < PLACES; left++) {
                pairs += Integer.bitCount(rightPlaces(s, k, left));
            }
            return pairs;
        }

        int rightPlaces(int s, int k, int left) {
            if (s < 0 || s >= SENTENCES || k < 0 || k >= RULES || left < 0 || left >= PLACES) {
                return 0;
            }
            return rights[(s * RULES + k) * PLACES + left];
        }

        boolean isBarred(int s) {
            return s >= 0 && s < SENTENCES && barred[s];
        }

        boolean has(int s, int k, int left, int right) {
            return right >= 0 && right < PLACES && (rightPlaces(s, k, left) >> right & 1) != 0;
        }

        int total(boolean barredOnly) {
            int sum = 0;
            for (int s = 0; s < sentences.came() && s < SENTENCES; s++) {
                for (int k = 0; k < RULES && (barred[s] || !barredOnly); k++) {
                    sum += counts[s * RULES + k];
                }
            }
            return sum;
        }

        int totalOfRule(int k) {
            int sum = 0;
            for (int s = 0; s < sentences.came() && s < SENTENCES && k >= 0 && k < RULES; s++) {
                sum += counts[s * RULES + k];
            }
            return sum;
        }

        int tellOf(int i, int what) {
            if (i < 0) {
                return NONE;
            }
            int rest = i;
            for (int s = 0; s < sentences.came() && s < SENTENCES; s++) {
                for (int k = 0; k < RULES; k++) {
                    int here = counts[s * RULES + k];
                    if (rest < here) {
                        return tellWithin(s, k, rest, what);
                    }
                    rest -= here;
                }
            }
            return NONE;
        }

        private int tellWithin(int s, int k, int i, int what) {
            int rest = i;
            for (int left = 0; left < PLACES; left++) {
                for (int right = 0; right < PLACES; right++) {
                    if (has(s, k, left, right)) {
                        if (rest == 0) {
                            return part(s, k, left, right, what);
                        }
                        rest--;
                    }
                }
            }
            return NONE;
        }

        private int part(int s, int k, int left, int right, int what) {
            switch (what) {
                case 0:
                    return s;
                case 1:
                    return k;
                case 2:
                    return left;
                case 3:
                    return right;
                case 4:
                    return isBarred(s) ? 1 : 0;
                case 5:
                    return book.relationOf(k);
                default:
                    return NONE;
            }
        }
    }

    /** The rows of every R, drawn anew only when they may have changed. */
    private static final class Table {
        private static final int WIDTH = WORDS + 1;
        private static final int HALF = 64;
        // Each round but the last brings a row more.
        private static final int ROUNDS = RELATIONS * WORDS * WORDS + 1;

        private final Lexicon lexicon;
        private final Sentences sentences;
        private final Book book;
        private final Finder finder;
        // By R and first name: a bit for each second name, below 64 in low, the others in high.
        private final long[] low = new long[RELATIONS * WIDTH];
        private final long[] high = new long[RELATIONS * WIDTH];
        private boolean stale;

        Table(Lexicon lexicon, Sentences sentences, Book book, Finder finder) {
            this.lexicon = lexicon;
            this.sentences = sentences;
            this.book = book;
            this.finder = finder;
        }

        void forget() {
            stale = true;
        }

        // The finder is to be fresh.
        void refresh() {
            if (!stale) {
                return;
            }
            stale = false;
            Arrays.fill(low, 0L);
            Arrays.fill(high, 0L);
            for (int s = 0; s < sentences.came(); s++) {
                if (!finder.isBarred(s)) {
                    addFindsOf(s);
                }
            }
            followChains();
        }

        private void addFindsOf(int s) {
            for (int k = 0; k < book.rules(); k++) {
                for (int left = 0; left < PLACES; left++) {
                    int rights = finder.rightPlaces(s, k, left);
                    for (int right = 0; right < PLACES && rights != 0; right++) {
                        if ((rights >> right & 1) != 0) {
                            addRow(book.relationOf(k), nameAt(s, left), nameAt(s, right));
                        }
                    }
                }
            }
        }

        private int nameAt(int s, int place) {
            return lexicon.nameOf(sentences.wordAt(s, place));
        }

        private void addRow(int r, int first, int second) {
            if (!isRelation(r) || !Lexicon.has(first) || !Lexicon.has(second)) {
                return;
            }
            if (second < HALF) {
                low[r * WIDTH + first] |= 1L << second;
            } else {
                high[r * WIDTH + first] |= 1L << (second - HALF);
            }
        }

        private void followChains() {
            boolean grew = true;
            for (int round = 0; round < ROUNDS && grew; round++) {
                grew = false;
                for (int c = 0; c < book.chains(); c++) {
                    if (followChain(book.chainGoal(c), book.chainFirst(c), book.chainSecond(c))) {
                        grew = true;
                    }
                }
            }
        }

        private boolean followChain(int goal, int p, int q) {
            if (!isRelation(goal) || !isRelation(p) || !isRelation(q)) {
                return false;
            }
            boolean grew = false;
            for (int a = 1; a <= WORDS; a++) {
                if (degree(p, a) > 0 && followFrom(a, goal, p, q)) {
                    grew = true;
                }
            }
            return grew;
        }

        private boolean followFrom(int a, int goal, int p, int q) {
            long lowFound = 0;
            long highFound = 0;
            for (int b = 1; b <= WORDS; b++) {
                if (hasRow(p, a, b)) {
                    lowFound |= low[q * WIDTH + b];
                    highFound |= high[q * WIDTH + b];
                }
            }
            int cell = goal * WIDTH + a;
            boolean grows = (lowFound & ~low[cell]) != 0 || (highFound & ~high[cell]) != 0;
            low[cell] |= lowFound;
            high[cell] |= highFound;
            return grows;
        }

        private boolean hasRow(int r, int first, int second) {
            int cell = r * WIDTH + first;
            if (second < HALF) {
                return (low[cell] >>> second & 1) != 0;
            }
            return (high[cell] >>> (second - HALF) & 1) != 0;
        }

        // How many rows of r have that first name.
        private int degree(int r, int first) {
            int cell = r * WIDTH + first;
            return Long.bitCount(low[cell]) + Long.bitCount(high[cell]);
        }

        int size(int r) {
            int sum = 0;
            for (int first = 1; first <= WORDS && isRelation(r); first++) {
                sum += degree(r, first);
            }
            return sum;
        }

        int name(int r, int i, boolean wantsFirst) {
            int rest = i;
            for (int first = 1; first <= WORDS && isRelation(r); first++) {
                int here = degree(r, first);
                if (rest < here) {
                    return wantsFirst ? first : secondName(r, first, rest);
                }
                rest -= here;
            }
            return NONE;
        }

        private int secondName(int r, int first, int i) {
            int rest = i;
            for (int second = 1; second <= WORDS; second++) {
                if (hasRow(r, first, second)) {
                    if (rest == 0) {
                        return second;
                    }
                    rest--;
                }
            }
            return NONE;
        }

        int quarrelling(int r, int i) {
            int rest = i;
            for (int first = 1; first <= WORDS && isRelation(r); first++) {
                if (degree(r, first) >= 2) {
                    if (rest == 0) {
                        return first;
                    }
                    rest--;
                }
            }
            return NONE;
        }
    }

    /** The marked pairs, in the order in which they were told. */
    private static final class Marks {
        private final Sentences sentences;
        private final Book book;
        private final Finder finder;
        private final int[] markSentences = new int[MARKS];
        private final int[] lefts = new int[MARKS];
        private final int[] rights = new int[MARKS];
        private final int[] relations = new int[MARKS];
        private final boolean[] isRight = new boolean[MARKS];
        private int size;

        Marks(Sentences sentences, Book book, Finder finder) {
            this.sentences = sentences;
            this.book = book;
            this.finder = finder;
        }

        int put(int sentence, int left, int right, int r, boolean isRightOne) {
            int n = indexOf(sentence, left, right, r);
            if (n == NONE) {
                if (size >= MARKS) {
                    return NONE;
                }
                n = size;
                size++;
            }
            markSentences[n] = sentence;
            lefts[n] = left;
            rights[n] = right;
            relations[n] = r;
            isRight[n] = isRightOne;
            return size;
        }

        private int indexOf(int sentence, int left, int right, int r) {
            for (int n = 0; n < size && n < MARKS; n++) {
                if (markSentences[n] == sentence && lefts[n] == left && rights[n] == right && relations[n] == r) {
                    return n;
                }
            }
            return NONE;
        }

        int size() {
            return size;
        }

        // Of r, of that worth, and its sentence there.
        boolean isUsable(int n, int r, boolean right) {
            return n >= 0 && n < size && relations[n] == r && isRight[n] == right
                && sentences.isThere(markSentences[n]);
        }

        int sentenceOf(int n) {
            return n >= 0 && n < size ? markSentences[n] : NONE;
        }

        int leftOf(int n) {
            return n >= 0 && n < size ? lefts[n] : NONE;
        }

        int rightOf(int n) {
            return n >= 0 && n < size ? rights[n] : NONE;
        }

        // Bit n for mark n.
        long caughtBy(int k, boolean right) {
            long caught = 0;
            int r = book.relationOf(k);
            for (int n = 0; n < size && n < MARKS; n++) {
                if (isUsable(n, r, right) && finder.has(markSentences[n], k, lefts[n], rights[n])) {
                    caught |= 1L << n;
                }
            }
            return caught;
        }

        int shareOf(int k) {
            int right = Long.bitCount(caughtBy(k, true));
            int all = right + Long.bitCount(caughtBy(k, false));
            return all == 0 ? NONE : right * 1000 / all;
        }
    }

    /** The search for the best set of rules. */
    private static final class BestSet {
        private final long[] rightCaught = new long[RULES];
        private final long[] wrongCaught = new long[RULES];
        private int rules;
        private int wrongAtMost;
        private int bestSet;
        private int bestCaught;

        void setCaught(int k, long right, long wrong) {
            if (k >= 0 && k < RULES) {
                rightCaught[k] = right;
                wrongCaught[k] = wrong;
            }
        }

        int choose(int ruleCount, int wrongLimit) {
            rules = Math.min(ruleCount, RULES);
            wrongAtMost = wrongLimit;
            bestSet = 0;
            bestCaught = 0;
            tryFrom(0, 0, 0L, 0L);
            return bestSet;
        }

        private void tryFrom(int k, int set, long right, long wrong) {
            if (Long.bitCount(wrong) > wrongAtMost) {
                return;
            }
            if (k < 0 || k >= rules || k >= RULES) {
                weigh(set, Long.bitCount(right));
                return;
            }
            tryFrom(k + 1, set, right, wrong);
            // A rule that brings no right mark more is one too many in whatever set.
            if ((rightCaught[k] & ~right) != 0) {
                tryFrom(k + 1, set | 1 << k, right | rightCaught[k], wrong | wrongCaught[k]);
            }
        }

        private void weigh(int set, int caught) {
            int fewer = Integer.bitCount(bestSet) - Integer.bitCount(set);
            if (caught > bestCaught || caught == bestCaught && (fewer > 0 || fewer == 0 && set < bestSet)) {
                bestSet = set;
                bestCaught = caught;
            }
        }
    }

    /** The least general pattern of right marks: what was learnt latest. */
    private static final class Lesson {
        private final Lexicon lexicon;
        private final Sentences sentences;
        private final Marks marks;
        private final int[] kinds = new int[PLACES];
        private final int[] numbers = new int[PLACES];
        // 0 as long as nothing was learnt.
        private int specs;
        private int relation;
        private boolean leftFirst;

        Lesson(Lexicon lexicon, Sentences sentences, Marks marks) {
            this.lexicon = lexicon;
            this.sentences = sentences;
            this.marks = marks;
        }

        int study(int r) {
            boolean begun = false;
            for (int n = 0; n < marks.size(); n++) {
                if (!marks.isUsable(n, r, true)) {
                    continue;
                }
                if (!begun) {
                    begin(r, n);
                    begun = true;
                } else if (isLike(n)) {
                    widen(n);
                }
            }
            return begun ? specs : NONE;
        }

        private void begin(int r, int n) {
            int distance = marks.rightOf(n) - marks.leftOf(n);
            relation = r;
            leftFirst = distance > 0;
            specs = Math.min(Math.abs(distance) + 1, PLACES);
            for (int i = 0; i < specs; i++) {
                kinds[i] = THAT_WORD;
                numbers[i] = wordAt(n, i);
            }
        }

        private boolean isLike(int n) {
            int distance = marks.rightOf(n) - marks.leftOf(n);
            return distance == (leftFirst ? specs - 1 : 1 - specs);
        }

        private int wordAt(int n, int i) {
            int start = Math.min(marks.leftOf(n), marks.rightOf(n));
            return sentences.wordAt(marks.sentenceOf(n), start + i);
        }

        private void widen(int n) {
            for (int i = 0; i < specs && i < PLACES; i++) {
                int word = wordAt(n, i);
                if (lexicon.fits(kinds[i], numbers[i], word)) {
                    continue;
                }
                if (kinds[i] == THAT_WORD && lexicon.sortOf(numbers[i]) == lexicon.sortOf(word)) {
                    kinds[i] = THAT_SORT;
                    numbers[i] = lexicon.sortOf(word);
                } else {
                    kinds[i] = ANY;
                    numbers[i] = 0;
                }
            }
        }

        int tellOf(int i, int what) {
            if (i < 0 || i >= specs || i >= PLACES) {
                return NONE;
            }
            switch (what) {
                case 0:
                    return kinds[i];
                case 1:
                    return numbers[i];
                case 2:
                    return roleOf(i);
                default:
                    return NONE;
            }
        }

        private int roleOf(int i) {
            if (i == 0) {
                return leftFirst ? LEFT : RIGHT;
            }
            if (i == specs - 1) {
                return leftFirst ? RIGHT : LEFT;
            }
            return 0;
        }

        int caught(boolean right) {
            if (specs == 0) {
                return NONE;
            }
            int sum = 0;
            for (int n = 0; n < marks.size(); n++) {
                if (marks.isUsable(n, relation, right) && isLike(n) && standsAt(n)) {
                    sum++;
                }
            }
            return sum;
        }

        private boolean standsAt(int n) {
            for (int i = 0; i < specs && i < PLACES; i++) {
                if (!lexicon.fits(kinds[i], numbers[i], wordAt(n, i))) {
                    return false;
                }
            }
            return true;
        }
    }
}
