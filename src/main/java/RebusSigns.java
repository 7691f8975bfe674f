import java.util.Arrays;

/** Words written in pictures, sounds and marks, and inscriptions read as such words. */
public final class RebusSigns {
    public static final int BAD = -1, NO = -2, FULL = -3, NONE = -4;

    private static final int PICTURE = 0, SOUND = 1, MARK = 2;
    private static final int STRUCK_CHANGE = 0, LAW_CHANGE = 1, CARVED_CHANGE = 2, CHIPPED_CHANGE = 3;
    private static final int MOST_TEXT = 200, MOST_SIGNS = 12, MOST_WORDS = 8;
    private static final int MOST_SOUND = 4, MOST_WORD = 8, MOST_ROW = 9;
    private static final int MOST_CARVED = 16, MOST_CHANGES = 6, LAST_CLASS = 5;
    private static final int FIRST_LETTER = 32, LAST_LETTER = 126;
    /** More signs or words than any writing or reading has: there is none from here. */
    private static final int FAR = 1000;
    private static final String FIRST_TEXT =
        "p0,bee;p1,leaf;p2,eye;p3,can;sn;st;sb;sl;m4;m1;w4,beleaf;w1,leaf;w4,canoe;w3,can;w5,cant;w2,bee;w0,bee;k1;";

    private final Letters text = new Letters(MOST_TEXT);
    private final Row inscription = new Row(MOST_CARVED);
    private final Row marked = new Row(MOST_ROW);
    private final History history = new History();
    private final Scribe scribe = new Scribe();
    private final Reader reader = new Reader();
    private Lexicon laid = firstLexicon();
    /** A text is read into the draft, so that a faulty one leaves what is laid as it was. */
    private Lexicon draft = new Lexicon();

    public RebusSigns() {
    }

    // ---- told

    public int write(int letter) {
        if (letter < FIRST_LETTER || letter > LAST_LETTER) {
            return BAD;
        }
        if (text.isFull()) {
            return FULL;
        }
        text.put((char) letter);
        return text.size();
    }

    public int wipe() {
        int size = text.size();
        text.clear();
        return size;
    }

    public int fault() {
        return Parser.firstFault(text, draft);
    }

    public int lay() {
        if (Parser.firstFault(text, draft) != NONE) {
            return NO;
        }
        if (draft.signCount == 0 || draft.wordCount == 0) {
            return NO;
        }
        Lexicon before = laid;
        laid = draft;
        draft = before;
        inscription.clear();
        history.clear();
        scribe.forget();
        return laid.signCount;
    }

    public int strike(int s, int is) {
        Sign sign = laid.signAt(s);
        if (sign == null || is < 0 || is > 1) {
            return BAD;
        }
        if (sign.struck == (is == 1)) {
            return NO;
        }
        turn(sign);
        history.push(STRUCK_CHANGE, s);
        return laid.struckSigns();
    }

    public int law(int l) {
        if (l < 0 || l > 1) {
            return BAD;
        }
        if (laid.loose == (l == 1)) {
            return NO;
        }
        int before = lawNumber();
        turnLaw();
        history.push(LAW_CHANGE, before);
        return before;
    }

    public int carve(int s) {
        if (laid.signAt(s) == null) {
            return BAD;
        }
        if (inscription.isFull()) {
            return FULL;
        }
        inscription.put(s);
        history.push(CARVED_CHANGE, s);
        return inscription.size();
    }

    public int chip() {
        if (inscription.size() == 0) {
            return NO;
        }
        int s = inscription.drop();
        history.push(CHIPPED_CHANGE, s);
        return s;
    }

    public int undo() {
        if (history.size() == 0) {
            return NO;
        }
        int value = history.lastValue();
        switch (history.lastKind()) {
            case STRUCK_CHANGE:
                turn(laid.signAt(value));
                break;
            case LAW_CHANGE:
                turnLaw();
                break;
            case CARVED_CHANGE:
                inscription.drop();
                break;
            default:
                inscription.put(value);
                break;
        }
        history.drop();
        return history.size();
    }

    // ---- signs and words

    public int sign(int s, int what) {
        Sign sign = laid.signAt(s);
        if (sign == null) {
            return BAD;
        }
        switch (what) {
            case 0:
                return sign.kind;
            case 1:
                return sign.kind == SOUND ? NONE : sign.group;
            case 2:
                return sign.sound.size();
            case 3:
                return sign.struck ? 1 : 0;
            case 4:
                return leastWritingsWith(s);
            default:
                return BAD;
        }
    }

    public int word(int w, int what) {
        Word word = laid.wordAt(w);
        if (word == null) {
            return BAD;
        }
        switch (what) {
            case 0:
                return word.group;
            case 1:
                return word.letters.size();
            case 2:
                return word.letters.vowels();
            case 3:
                scribe.settle(laid);
                return clearness(w);
            case 4:
                scribe.settle(laid);
                return mixedWith(w, 0);
            default:
                return BAD;
        }
    }

    public int least(int w, int k) {
        Word word = laid.wordAt(w);
        if (word == null || k < -2) {
            return BAD;
        }
        scribe.settle(laid);
        Row row = scribe.rowOf(w);
        if (row == null || row.size() == 0) {
            return NONE;
        }
        if (k == -1) {
            return row.size();
        }
        if (k == -2) {
            return word.letters.size() - laid.lettersOf(row);
        }
        return row.at(k);
    }

    public int mark(int w) {
        Word word = laid.wordAt(w);
        if (word == null) {
            return BAD;
        }
        scribe.settle(laid);
        return clearness(w) == 2 ? laid.lowestMark(word.group) : NONE;
    }

    public long writings(int w) {
        Word word = laid.wordAt(w);
        if (word == null) {
            return BAD;
        }
        return scribe.rowsOfSounds(laid, word) * (1 + laid.marksOf(word.group));
    }

    // ---- the inscription

    public int carved(int k) {
        return k < 0 ? BAD : inscription.at(k);
    }

    public int read(int i, int n) {
        if (i < 0 || n < 1 || n > MOST_ROW) {
            return BAD;
        }
        if (i > inscription.size() - n) {
            return NO;
        }
        reader.look(laid, inscription, i);
        return reader.wordsBy(n);
    }

    public long readings() {
        reader.plan(laid, inscription);
        return reader.waysInAll();
    }

    public int reading(int k) {
        if (k < -1) {
            return BAD;
        }
        reader.plan(laid, inscription);
        int words = reader.fewestWords();
        if (words >= FAR) {
            return NONE;
        }
        return k == -1 ? words : reader.plannedWord(k);
    }

    public int cut(int k) {
        if (k < 0) {
            return BAD;
        }
        reader.plan(laid, inscription);
        return reader.plannedCut(k);
    }

    public int count(int what) {
        switch (what) {
            case 0:
                return laid.signCount;
            case 1:
                return laid.wordCount;
            case 2:
                return lawNumber();
            case 3:
                return laid.struckSigns();
            case 4:
                return inscription.size();
            case 5:
                return writtenWords();
            case 6:
                return clearWords();
            case 7:
                return mixedPairs();
            case 8:
                return history.size();
            case 9:
                return text.size();
            default:
                return BAD;
        }
    }

    // ---- what the calls share

    private static Lexicon firstLexicon() {
        Letters letters = new Letters(FIRST_TEXT.length());
        for (int i = 0; i < FIRST_TEXT.length(); i++) {
            letters.put(FIRST_TEXT.charAt(i));
        }
        Lexicon lexicon = new Lexicon();
        Parser.firstFault(letters, lexicon);
        return lexicon;
    }

    private void turn(Sign sign) {
        if (sign != null) {
            sign.struck = !sign.struck;
            scribe.forget();
        }
    }

    private void turnLaw() {
        laid.loose = !laid.loose;
        scribe.forget();
    }

    private int lawNumber() {
        return laid.loose ? 1 : 0;
    }

    private int leastWritingsWith(int s) {
        scribe.settle(laid);
        int all = 0;
        for (int w = 0; w < laid.wordCount; w++) {
            Row row = scribe.rowOf(w);
            if (row != null && row.has(s)) {
                all++;
            }
        }
        return all;
    }

    /** How a word is clear: 1 by its least writing, 2 with a mark, 0 not. Asks for settled rows. */
    private int clearness(int w) {
        Row row = scribe.rowOf(w);
        Word word = laid.wordAt(w);
        if (row == null || word == null || row.size() == 0) {
            return 0;
        }
        int alone = 1 << w;
        reader.look(laid, row, 0);
        if (reader.wordsBy(row.size()) == alone) {
            return 1;
        }
        int mark = laid.lowestMark(word.group);
        if (mark == NONE) {
            return 0;
        }
        marked.copy(row);
        marked.put(mark);
        reader.look(laid, marked, 0);
        return reader.wordsBy(marked.size()) == alone ? 2 : 0;
    }

    /** How many other words from a number on are mixed with a word. Asks for settled rows. */
    private int mixedWith(int w, int from) {
        Row row = scribe.rowOf(w);
        if (row == null || row.size() == 0) {
            return 0;
        }
        int all = 0;
        for (int v = from; v < laid.wordCount; v++) {
            Row other = scribe.rowOf(v);
            if (v != w && other != null && row.isSameAs(other)) {
                all++;
            }
        }
        return all;
    }

    /** A word that has a writing with a mark has it without the mark too: the least ones tell. */
    private int writtenWords() {
        scribe.settle(laid);
        int all = 0;
        for (int w = 0; w < laid.wordCount; w++) {
            Row row = scribe.rowOf(w);
            if (row != null && row.size() > 0) {
                all++;
            }
        }
        return all;
    }

    private int clearWords() {
        scribe.settle(laid);
        int all = 0;
        for (int w = 0; w < laid.wordCount; w++) {
            if (clearness(w) != 0) {
                all++;
            }
        }
        return all;
    }

    private int mixedPairs() {
        scribe.settle(laid);
        int all = 0;
        for (int w = 0; w < laid.wordCount; w++) {
            all += mixedWith(w, w + 1);
        }
        return all;
    }

    /** Letters one behind the other, up to a bound. */
    private static final class Letters {
        private final char[] row;
        private int size;

        Letters(int most) {
            row = new char[Math.max(most, 0)];
        }

        int size() {
            return size;
        }

        boolean isFull() {
            return size >= row.length;
        }

        void clear() {
            size = 0;
        }

        void put(char letter) {
            if (size >= 0 && size < row.length) {
                row[size] = letter;
                size++;
            }
        }

        /** The letter at a place, NONE where there is none. */
        int at(int place) {
            return place >= 0 && place < size && place < row.length ? row[place] : NONE;
        }

        /** The first place of a letter from a place on, NONE if it does not come. */
        int find(char letter, int from) {
            for (int i = Math.max(from, 0); i < size; i++) {
                if (at(i) == letter) {
                    return i;
                }
            }
            return NONE;
        }

        /** Becomes a part of a text; tells if that is a to z alone, one letter at least and not too many. */
        boolean become(Letters source, int start, int end) {
            clear();
            if (start >= end || end - start > row.length) {
                return false;
            }
            for (int i = start; i < end; i++) {
                int letter = source.at(i);
                if (letter < 'a' || letter > 'z') {
                    return false;
                }
                put((char) letter);
            }
            return true;
        }

        boolean isVowelAt(int place) {
            if (place < 0 || place >= size || place >= row.length) {
                return false;
            }
            switch (row[place]) {
                case 'a':
                case 'e':
                case 'i':
                case 'o':
                case 'u':
                    return true;
                default:
                    return false;
            }
        }

        int vowels() {
            int all = 0;
            for (int i = 0; i < size; i++) {
                if (isVowelAt(i)) {
                    all++;
                }
            }
            return all;
        }

        boolean hasAt(int place, Letters part) {
            if (place < 0 || part.size > size - place) {
                return false;
            }
            for (int i = 0; i < part.size && i < part.row.length && place + i < row.length; i++) {
                if (row[place + i] != part.row[i]) {
                    return false;
                }
            }
            return true;
        }
    }

    /** Numbers of signs one behind the other, up to a bound. */
    private static final class Row {
        private final int[] signs;
        private int size;

        Row(int most) {
            signs = new int[Math.max(most, 0)];
        }

        int size() {
            return size;
        }

        boolean isFull() {
            return size >= signs.length;
        }

        void clear() {
            size = 0;
        }

        void put(int s) {
            if (size >= 0 && size < signs.length) {
                signs[size] = s;
                size++;
            }
        }

        /** Takes the last sign off and tells it. */
        int drop() {
            int last = at(size - 1);
            if (last != NONE) {
                size--;
            }
            return last;
        }

        /** The sign at a place, NONE where there is none. */
        int at(int place) {
            return place >= 0 && place < size && place < signs.length ? signs[place] : NONE;
        }

        boolean has(int s) {
            for (int i = 0; i < size; i++) {
                if (at(i) == s) {
                    return true;
                }
            }
            return false;
        }

        void copy(Row other) {
            clear();
            for (int i = 0; i < other.size; i++) {
                put(other.at(i));
            }
        }

        boolean isSameAs(Row other) {
            if (size != other.size) {
                return false;
            }
            for (int i = 0; i < size; i++) {
                if (at(i) != other.at(i)) {
                    return false;
                }
            }
            return true;
        }
    }

    /** The latest changes that can be undone: what was done, and to which sign or law. */
    private static final class History {
        private final int[] kinds = new int[MOST_CHANGES];
        private final int[] values = new int[MOST_CHANGES];
        private int size;

        int size() {
            return size;
        }

        void clear() {
            size = 0;
        }

        void push(int kind, int value) {
            if (size >= MOST_CHANGES) {
                forgetOldest();
            }
            if (size >= 0 && size < MOST_CHANGES) {
                kinds[size] = kind;
                values[size] = value;
                size++;
            }
        }

        int lastKind() {
            return size > 0 && size <= MOST_CHANGES ? kinds[size - 1] : NONE;
        }

        int lastValue() {
            return size > 0 && size <= MOST_CHANGES ? values[size - 1] : NONE;
        }

        void drop() {
            if (size > 0) {
                size--;
            }
        }

        private void forgetOldest() {
            for (int i = 1; i < MOST_CHANGES; i++) {
                kinds[i - 1] = kinds[i];
                values[i - 1] = values[i];
            }
            size = MOST_CHANGES - 1;
        }
    }

    /** A sign; a mark has no letters, a sound's class does not count. */
    private static final class Sign {
        private final Letters sound = new Letters(MOST_SOUND);
        private int kind;
        private int group;
        private boolean struck;
    }

    /** A word and its class. */
    private static final class Word {
        private final Letters letters = new Letters(MOST_WORD);
        private int group;
    }

    /** Signs, words and the law, and how a sound goes into a word by them. */
    private static final class Lexicon {
        private final Sign[] signs = new Sign[MOST_SIGNS];
        private final Word[] words = new Word[MOST_WORDS];
        private int signCount;
        private int wordCount;
        private boolean loose;

        Lexicon() {
            for (int s = 0; s < MOST_SIGNS; s++) {
                signs[s] = new Sign();
            }
            for (int w = 0; w < MOST_WORDS; w++) {
                words[w] = new Word();
            }
        }

        void clear() {
            signCount = 0;
            wordCount = 0;
            loose = false;
        }

        /** The sign of a number, null if there is none. */
        Sign signAt(int s) {
            return s >= 0 && s < signCount && s < MOST_SIGNS ? signs[s] : null;
        }

        /** The word of a number, null if there is none. */
        Word wordAt(int w) {
            return w >= 0 && w < wordCount && w < MOST_WORDS ? words[w] : null;
        }

        /** The sign that would be the next one, null if there is room for none. */
        Sign nextSign() {
            return signCount >= 0 && signCount < MOST_SIGNS ? signs[signCount] : null;
        }

        /** The word that would be the next one, null if there is room for none. */
        Word nextWord() {
            return wordCount >= 0 && wordCount < MOST_WORDS ? words[wordCount] : null;
        }

        /** The word of a class with just these letters, NONE if there is none. */
        int wordOf(int group, Letters letters) {
            for (int w = 0; w < wordCount; w++) {
                Word word = wordAt(w);
                if (word == null || word.group != group || word.letters.size() != letters.size()) {
                    continue;
                }
                if (word.letters.hasAt(0, letters)) {
                    return w;
                }
            }
            return NONE;
        }

        int struckSigns() {
            int all = 0;
            for (int s = 0; s < signCount; s++) {
                Sign sign = signAt(s);
                if (sign != null && sign.struck) {
                    all++;
                }
            }
            return all;
        }

        /** The lowest mark of a class that is not struck, NONE if there is none. */
        int lowestMark(int group) {
            for (int s = 0; s < signCount; s++) {
                if (marks(signAt(s), group)) {
                    return s;
                }
            }
            return NONE;
        }

        int marksOf(int group) {
            int all = 0;
            for (int s = 0; s < signCount; s++) {
                if (marks(signAt(s), group)) {
                    all++;
                }
            }
            return all;
        }

        boolean marks(Sign sign, int group) {
            return sign != null && sign.kind == MARK && !sign.struck && sign.group == group;
        }

        int lettersOf(Row row) {
            int all = 0;
            for (int i = 0; i < row.size(); i++) {
                Sign sign = signAt(row.at(i));
                if (sign != null) {
                    all += sign.sound.size();
                }
            }
            return all;
        }

        /**
         * The first place behind a sign's sound, when the word is written up to a place; NONE if it can't go on so.
         *
         * The first is enough: consonants are never left out, so that between two places up to which the same
         * sounds have written a word there are vowels alone, and from the earlier one all goes on that goes on
         * from the later. So a row has one place in a word, and unlike rows are counted once each.
         */
        int placeBehind(Word word, int place, Sign sign) {
            if (place < 0 || sign.struck || sign.kind == MARK) {
                return NONE;
            }
            for (int at = place; at < word.letters.size(); at++) {
                if (word.letters.hasAt(at, sign.sound)) {
                    return at + sign.sound.size();
                }
                if (!loose || !word.letters.isVowelAt(at)) {
                    return NONE;
                }
            }
            return NONE;
        }

        /** Whether a word is whole when it is written up to a place. */
        boolean mayEndAt(Word word, int place) {
            for (int at = place; at < word.letters.size(); at++) {
                if (!loose || !word.letters.isVowelAt(at)) {
                    return false;
                }
            }
            return true;
        }
    }

    /** Reads a text into a lexicon. */
    private static final class Parser {
        private Parser() {
        }

        /** The place of the first item that is not so, NONE if all are. */
        static int firstFault(Letters text, Lexicon into) {
            into.clear();
            int start = 0;
            while (start < text.size()) {
                int end = text.find(';', start);
                if (end < start || !takesItem(text, start, end, into)) {
                    return start;
                }
                start = end + 1;
            }
            return NONE;
        }

        private static boolean takesItem(Letters text, int start, int end, Lexicon into) {
            switch (text.at(start)) {
                case 'p':
                    return takesPicture(text, start, end, into);
                case 's':
                    return takesSound(text, start, end, into);
                case 'm':
                    return takesMark(text, start, end, into);
                case 'w':
                    return takesWord(text, start, end, into);
                case 'k':
                    return takesLaw(text, start, end, into);
                default:
                    return false;
            }
        }

        private static boolean takesPicture(Letters text, int start, int end, Lexicon into) {
            Sign sign = into.nextSign();
            int group = digitAt(text, start + 1, LAST_CLASS);
            if (sign == null || group == NONE || text.at(start + 2) != ',') {
                return false;
            }
            if (!sign.sound.become(text, start + 3, end)) {
                return false;
            }
            keep(sign, PICTURE, group, into);
            return true;
        }

        private static boolean takesSound(Letters text, int start, int end, Lexicon into) {
            Sign sign = into.nextSign();
            if (sign == null || !sign.sound.become(text, start + 1, end)) {
                return false;
            }
            keep(sign, SOUND, 0, into);
            return true;
        }

        private static boolean takesMark(Letters text, int start, int end, Lexicon into) {
            Sign sign = into.nextSign();
            int group = digitAt(text, start + 1, LAST_CLASS);
            if (sign == null || group == NONE || end != start + 2) {
                return false;
            }
            sign.sound.clear();
            keep(sign, MARK, group, into);
            return true;
        }

        private static boolean takesWord(Letters text, int start, int end, Lexicon into) {
            Word word = into.nextWord();
            int group = digitAt(text, start + 1, LAST_CLASS);
            if (word == null || group == NONE || text.at(start + 2) != ',') {
                return false;
            }
            if (!word.letters.become(text, start + 3, end) || into.wordOf(group, word.letters) != NONE) {
                return false;
            }
            word.group = group;
            into.wordCount++;
            return true;
        }

        private static boolean takesLaw(Letters text, int start, int end, Lexicon into) {
            int law = digitAt(text, start + 1, 1);
            if (law == NONE || end != start + 2) {
                return false;
            }
            into.loose = law == 1;
            return true;
        }

        private static void keep(Sign sign, int kind, int group, Lexicon into) {
            sign.kind = kind;
            sign.group = group;
            sign.struck = false;
            into.signCount++;
        }

        /** The digit at a place, NONE if there is none from 0 to the last one told. */
        private static int digitAt(Letters text, int place, int last) {
            int digit = text.at(place) - '0';
            return digit >= 0 && digit <= last ? digit : NONE;
        }
    }

    /** Finds the least writings and counts the writings. */
    private static final class Scribe {
        private final Row[] rows = new Row[MOST_WORDS];
        /** By the place up to which a word is written: how the rest of it is written best. */
        private final int[] fewest = new int[MOST_WORD + 1];
        private final int[] told = new int[MOST_WORD + 1];
        private final int[] first = new int[MOST_WORD + 1];
        private final long[] ways = new long[MOST_WORD + 1];
        private boolean settled;

        Scribe() {
            for (int w = 0; w < MOST_WORDS; w++) {
                rows[w] = new Row(MOST_WORD);
            }
        }

        /** To be called at each change of signs, words or law: the rows hold no longer. */
        void forget() {
            settled = false;
        }

        void settle(Lexicon lexicon) {
            if (settled) {
                return;
            }
            for (int w = 0; w < MOST_WORDS; w++) {
                Word word = lexicon.wordAt(w);
                if (word != null) {
                    findLeast(lexicon, word, rows[w]);
                }
            }
            settled = true;
        }

        /** The least writing of a word, empty if it has none. */
        Row rowOf(int w) {
            return w >= 0 && w < MOST_WORDS ? rows[w] : null;
        }

        private void findLeast(Lexicon lexicon, Word word, Row row) {
            for (int place = word.letters.size(); place >= 0; place--) {
                weigh(lexicon, word, place);
            }
            row.clear();
            int place = 0;
            for (int k = 0; k < MOST_WORD && place >= 0 && place <= MOST_WORD; k++) {
                Sign sign = lexicon.signAt(first[place]);
                if (sign == null) {
                    return;
                }
                row.put(first[place]);
                place = lexicon.placeBehind(word, place, sign);
            }
        }

        /** Goes by rising numbers and takes the better alone: so of equals the lower sign stays. */
        private void weigh(Lexicon lexicon, Word word, int place) {
            if (place < 0 || place > MOST_WORD) {
                return;
            }
            boolean whole = place > 0 && lexicon.mayEndAt(word, place);
            fewest[place] = whole ? 0 : FAR;
            told[place] = 0;
            first[place] = NONE;
            for (int s = 0; s < lexicon.signCount && !whole; s++) {
                Sign sign = lexicon.signAt(s);
                if (sign == null) {
                    continue;
                }
                int next = lexicon.placeBehind(word, place, sign);
                if (next < 0 || next > MOST_WORD || fewest[next] >= FAR) {
                    continue;
                }
                int signs = fewest[next] + 1;
                int letters = told[next] + sign.sound.size();
                if (signs < fewest[place] || (signs == fewest[place] && letters > told[place])) {
                    fewest[place] = signs;
                    told[place] = letters;
                    first[place] = s;
                }
            }
        }

        /** How many unlike rows without a mark write a word; the empty row, at place 0, is none. */
        long rowsOfSounds(Lexicon lexicon, Word word) {
            Arrays.fill(ways, 0L);
            ways[0] = 1;
            long all = 0;
            for (int place = 0; place <= word.letters.size() && place <= MOST_WORD; place++) {
                if (place > 0 && lexicon.mayEndAt(word, place)) {
                    all += ways[place];
                }
                for (int s = 0; s < lexicon.signCount && ways[place] > 0; s++) {
                    Sign sign = lexicon.signAt(s);
                    int next = sign == null ? NONE : lexicon.placeBehind(word, place, sign);
                    if (next >= 0 && next <= MOST_WORD) {
                        ways[next] += ways[place];
                    }
                }
            }
            return all;
        }
    }

    /** Reads rows as words, and plans the readings of an inscription. */
    private static final class Reader {
        /** By the number of signs of a row from the place looked at on: its words as bits. */
        private final int[] seen = new int[MOST_ROW + 1];
        /** By the place from which an inscription is still to be read. */
        private final long[] ways = new long[MOST_CARVED + 1];
        private final int[] fewest = new int[MOST_CARVED + 1];
        private final int[] cuts = new int[MOST_CARVED + 1];
        private final int[] words = new int[MOST_CARVED + 1];

        /** Reads the rows of 1, 2, .. signs that begin at a place. */
        void look(Lexicon lexicon, Row row, int from) {
            Arrays.fill(seen, 0);
            for (int w = 0; w < lexicon.wordCount; w++) {
                follow(lexicon, w, row, from);
            }
            Sign head = lexicon.signAt(row.at(from));
            if (head != null && head.kind == PICTURE && !head.struck) {
                int own = lexicon.wordOf(head.group, head.sound);
                if (own >= 0) {
                    seen[1] = 1 << own;
                }
            }
        }

        /** The words as bits of the row of n signs from the place looked at on. */
        int wordsBy(int n) {
            return n >= 0 && n <= MOST_ROW ? seen[n] : 0;
        }

        private void follow(Lexicon lexicon, int w, Row row, int from) {
            Word word = lexicon.wordAt(w);
            int place = 0;
            for (int n = 1; n <= MOST_ROW && word != null; n++) {
                Sign sign = lexicon.signAt(row.at(from + n - 1));
                if (sign == null) {
                    return;
                }
                boolean closes = n > 1 && lexicon.marks(sign, word.group);
                if (!closes) {
                    place = lexicon.placeBehind(word, place, sign);
                }
                if (place < 0) {
                    return;
                }
                if (lexicon.mayEndAt(word, place)) {
                    seen[n] |= 1 << w;
                }
                if (closes) {
                    return;
                }
            }
        }

        void plan(Lexicon lexicon, Row row) {
            int end = Math.min(row.size(), MOST_CARVED);
            Arrays.fill(ways, 0L);
            Arrays.fill(fewest, FAR);
            if (end < 0) {
                return;
            }
            ways[end] = 1;
            fewest[end] = 0;
            for (int start = end - 1; start >= 0; start--) {
                look(lexicon, row, start);
                join(start, end);
            }
        }

        /** Goes by rising lengths and takes the better alone: so of equals the shorter row stays. */
        private void join(int start, int end) {
            if (start < 0 || end > MOST_CARVED) {
                return;
            }
            for (int n = 1; n <= MOST_ROW && start + n <= end; n++) {
                int bits = seen[n];
                if (bits == 0) {
                    continue;
                }
                ways[start] += Integer.bitCount(bits) * ways[start + n];
                if (fewest[start + n] + 1 < fewest[start]) {
                    fewest[start] = fewest[start + n] + 1;
                    cuts[start] = n;
                    words[start] = lowestBit(bits);
                }
            }
        }

        private static int lowestBit(int bits) {
            for (int w = 0; w < MOST_WORDS; w++) {
                if (((bits >> w) & 1) != 0) {
                    return w;
                }
            }
            return NONE;
        }

        long waysInAll() {
            return ways[0];
        }

        /** How many words the planned reading has, FAR if there is none. */
        int fewestWords() {
            return fewest[0];
        }

        int plannedWord(int k) {
            int start = startOf(k);
            return start >= 0 && start <= MOST_CARVED ? words[start] : NONE;
        }

        int plannedCut(int k) {
            int start = startOf(k);
            return start >= 0 && start <= MOST_CARVED ? cuts[start] : NONE;
        }

        /** Where the k-th row of the planned reading begins, NONE if it has none such. */
        private int startOf(int k) {
            if (fewest[0] >= FAR || k < 0 || k >= fewest[0]) {
                return NONE;
            }
            int start = 0;
            for (int i = 0; i < k && start >= 0 && start <= MOST_CARVED; i++) {
                start += cuts[start];
            }
            return start;
        }
    }
}
