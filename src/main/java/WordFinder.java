import java.util.ArrayList;
import java.util.NoSuchElementException;

/**
 * A finder of words in texts: an index of the texts' words, queries and kept queries, changes and
 * undo, words and texts that are alike. Each call is promised in DOC.md.
 */
public final class WordFinder {
    public static final int NONE = -1;

    private static final int TEXTS = 100;
    private static final int KEPT = 6;

    private final Tape tape;
    private final QueryReader reader;
    /** The texts by their numbers; null where there is none. */
    private final Text[] shelf;
    private final Index dictionary;
    private final Past past;
    /** The kept queries by their places; null where none is kept. */
    private final Node[] kept;
    private final TextSet[] keptFound;
    private final Events told;
    private final Found latest;
    private final Difference difference;
    private final StringBuilder written;

    public WordFinder() {
        tape = new Tape();
        reader = new QueryReader(tape);
        shelf = new Text[TEXTS];
        dictionary = new Index();
        past = new Past();
        kept = new Node[KEPT];
        keptFound = new TextSet[KEPT];
        for (int i = 0; i < KEPT; i++) {
            keptFound[i] = new TextSet();
        }
        told = new Events();
        latest = new Found();
        difference = new Difference();
        written = new StringBuilder();
    }

    // ---- The tape.

    public int append(int a, int b, int c, int d, int e) throws IllegalStateException {
        int more = Tape.bytesOf(a) + Tape.bytesOf(b) + Tape.bytesOf(c) + Tape.bytesOf(d) + Tape.bytesOf(e);
        if (tape.size + more > Tape.LIMIT) {
            throw new IllegalStateException();
        }
        tape.addBytes(a);
        tape.addBytes(b);
        tape.addBytes(c);
        tape.addBytes(d);
        tape.addBytes(e);
        return tape.size;
    }

    public int clearTape() {
        int had = tape.size;
        tape.size = 0;
        return had;
    }

    public int errorPosition() {
        return tape.errorAt;
    }

    // ---- Texts.

    public int addText() throws IllegalStateException, IllegalArgumentException {
        int number = freeNumber();
        if (number == NONE) {
            throw new IllegalStateException();
        }
        Text added = tape.takeText();
        if (added == null) {
            throw new IllegalArgumentException();
        }
        change(number, added);
        return number;
    }

    public int replaceText(int text) throws IndexOutOfBoundsException, IllegalArgumentException {
        Text old = demandText(text);
        Text now = tape.takeText();
        if (now == null) {
            throw new IllegalArgumentException();
        }
        change(text, now);
        return old.size();
    }

    public int removeText(int text) throws IndexOutOfBoundsException {
        Text old = demandText(text);
        change(text, null);
        return old.size();
    }

    public int putWord(int text, int place, int word)
            throws IndexOutOfBoundsException, IllegalArgumentException, IllegalStateException {
        Text old = demandText(text);
        if (place < 0 || place > old.size()) {
            throw new IndexOutOfBoundsException();
        }
        demandWord(word);
        if (old.size() >= Text.LIMIT) {
            throw new IllegalStateException();
        }
        change(text, old.withPut(place, word));
        return old.size() + 1;
    }

    public int takeWord(int text, int place) throws IndexOutOfBoundsException {
        Text old = demandText(text);
        demandPlace(old, place);
        change(text, old.withTaken(place));
        return old.at(place);
    }

    public int setWord(int text, int place, int word) throws IndexOutOfBoundsException, IllegalArgumentException {
        Text old = demandText(text);
        demandPlace(old, place);
        demandWord(word);
        change(text, old.withSet(place, word));
        return old.at(place);
    }

    public int undo() {
        if (past.count == 0) {
            return NONE;
        }
        int number = past.latestNumber();
        Text old = past.latestText();
        past.forgetLatest();
        exchange(number, old);
        return number;
    }

    public int undoable() {
        return past.count;
    }

    public int texts() {
        int count = 0;
        for (int i = 0; i < TEXTS; i++) {
            if (shelf[i] != null) {
                count++;
            }
        }
        return count;
    }

    public int nextText(int text) {
        for (int i = Math.max(text, 0); i < TEXTS; i++) {
            if (shelf[i] != null) {
                return i;
            }
        }
        return NONE;
    }

    public int length(int text) throws IndexOutOfBoundsException {
        return demandText(text).size();
    }

    public int wordAt(int text, int place) throws IndexOutOfBoundsException {
        Text asked = demandText(text);
        demandPlace(asked, place);
        return asked.at(place);
    }

    public char letterAt(int text, int place, int letter) throws IndexOutOfBoundsException {
        Text asked = demandText(text);
        demandPlace(asked, place);
        int word = asked.at(place);
        if (letter < 0 || letter >= Word.lettersOf(word)) {
            throw new IndexOutOfBoundsException();
        }
        return Word.letterOf(word, letter);
    }

    // ---- The index.

    public int words() {
        return dictionary.size();
    }

    public int indexWord(int index) throws IndexOutOfBoundsException {
        int word = dictionary.numberAt(index);
        if (word == NONE) {
            throw new IndexOutOfBoundsException();
        }
        return word;
    }

    public int firstWord() throws NoSuchElementException {
        int word = dictionary.numberAt(0);
        if (word == NONE) {
            throw new NoSuchElementException();
        }
        return word;
    }

    public int lastWord() throws NoSuchElementException {
        int word = dictionary.numberAt(dictionary.size() - 1);
        if (word == NONE) {
            throw new NoSuchElementException();
        }
        return word;
    }

    public int beside(int word, boolean isBehind) throws IllegalArgumentException {
        demandWord(word);
        int order = Word.orderOf(word);
        return dictionary.numberAt(isBehind ? dictionary.countAhead(order + 1) : dictionary.countAhead(order) - 1);
    }

    public int between(int first, int second) throws IllegalArgumentException {
        demandWord(first);
        demandWord(second);
        if (Word.orderOf(second) < Word.orderOf(first)) {
            throw new IllegalArgumentException();
        }
        return dictionary.countAhead(Word.orderOf(second)) - dictionary.countAhead(Word.orderOf(first));
    }

    public int beginning(int word) throws IllegalArgumentException {
        demandWord(word);
        return dictionary.countAhead(Word.orderBehindBeginning(word)) - dictionary.countAhead(Word.orderOf(word));
    }

    public int textsWith(int word) throws IllegalArgumentException {
        demandWord(word);
        Word entry = dictionary.find(word);
        return entry == null ? 0 : entry.within.size();
    }

    public boolean isIn(int word, int text) throws IllegalArgumentException, IndexOutOfBoundsException {
        demandWord(word);
        if (text < 0) {
            throw new IndexOutOfBoundsException();
        }
        Word entry = dictionary.find(word);
        return entry != null && entry.within.has(text);
    }

    public int nextWith(int word, int text) throws IllegalArgumentException, IndexOutOfBoundsException {
        demandWord(word);
        if (text < 0) {
            throw new IndexOutOfBoundsException();
        }
        Word entry = dictionary.find(word);
        return entry == null ? NONE : entry.within.next(text);
    }

    public int places(int word) throws IllegalArgumentException {
        demandWord(word);
        int count = 0;
        for (int i = 0; i < TEXTS; i++) {
            if (shelf[i] != null) {
                count += shelf[i].countWord(word);
            }
        }
        return count;
    }

    public int placeIn(int word, int text, int index) throws IllegalArgumentException, IndexOutOfBoundsException {
        demandWord(word);
        return demandText(text).placeOf(word, index);
    }

    public int frequent(int rank) throws IndexOutOfBoundsException {
        int word = dictionary.frequentAt(rank);
        if (word == NONE) {
            throw new IndexOutOfBoundsException();
        }
        return word;
    }

    public int together(int word, int other) throws IllegalArgumentException {
        demandWord(word);
        demandWord(other);
        Word first = dictionary.find(word);
        Word second = dictionary.find(other);
        return first == null || second == null ? 0 : first.within.shared(second.within);
    }

    public int companion(int word) throws IllegalArgumentException {
        demandWord(word);
        return dictionary.companionOf(word);
    }

    public int neighbours(int word) throws IllegalArgumentException {
        demandWord(word);
        return dictionary.countNeighbours(word);
    }

    public int neighbourAt(int word, int index) throws IllegalArgumentException {
        demandWord(word);
        return dictionary.neighbourOf(word, index);
    }

    // ---- Queries.

    public int ask() throws IllegalArgumentException {
        Node query = reader.takeQuery();
        if (query == null) {
            throw new IllegalArgumentException();
        }
        latest.fill(query, shelf);
        return latest.count;
    }

    public int askKept(int place) throws IllegalArgumentException, NoSuchElementException {
        demandKeptPlace(place);
        latest.fill(demandKept(place), shelf);
        return latest.count;
    }

    public int foundAt(int index) {
        return latest.numberAt(index);
    }

    public int rankAt(int rank) {
        return latest.rankedAt(rank);
    }

    public int scoreAt(int rank) {
        return latest.scoreOf(rank);
    }

    public int keep(int place) throws IllegalArgumentException {
        demandKeptPlace(place);
        Node query = reader.takeQuery();
        if (query == null) {
            throw new IllegalArgumentException();
        }
        return keepQuery(place, query);
    }

    public int keepNot(int place, int other) throws IllegalArgumentException, NoSuchElementException {
        demandKeptPlace(place);
        demandKeptPlace(other);
        return keepQuery(place, Node.negated(demandKept(other), 0));
    }

    public boolean drop(int place) throws IllegalArgumentException {
        demandKeptPlace(place);
        boolean isKept = kept[place] != null;
        kept[place] = null;
        return isKept;
    }

    public int parts(int place) throws IllegalArgumentException, NoSuchElementException {
        demandKeptPlace(place);
        return simplePartsOf(demandKept(place)).size();
    }

    public int partFound(int place, int part)
            throws IllegalArgumentException, NoSuchElementException, IndexOutOfBoundsException {
        demandKeptPlace(place);
        ArrayList<Node> simple = simplePartsOf(demandKept(place));
        if (part < 0 || part >= simple.size()) {
            throw new IndexOutOfBoundsException();
        }
        return countFound(simple.get(part));
    }

    public int write(int place) throws IllegalArgumentException, NoSuchElementException {
        demandKeptPlace(place);
        Node query = demandKept(place);
        written.setLength(0);
        Node.spell(query, written, 0);
        return written.length();
    }

    public char writtenAt(int index) throws IndexOutOfBoundsException {
        if (index < 0 || index >= written.length()) {
            throw new IndexOutOfBoundsException();
        }
        return written.charAt(index);
    }

    public int events() {
        return told.count;
    }

    public int eventOf(int event, int what) throws IndexOutOfBoundsException, IllegalArgumentException {
        if (event < 0 || event >= told.count) {
            throw new IndexOutOfBoundsException();
        }
        if (what < 0 || what > 2) {
            throw new IllegalArgumentException();
        }
        return told.figure(event, what);
    }

    public int compare(int place, int other)
            throws IllegalArgumentException, NoSuchElementException, IllegalStateException {
        demandKeptPlace(place);
        demandKeptPlace(other);
        Node first = demandKept(place);
        Node second = demandKept(other);
        difference.forgetWords();
        if (!difference.gatherWords(simplePartsOf(first)) || !difference.gatherWords(simplePartsOf(second))) {
            throw new IllegalStateException();
        }
        difference.search(first, second);
        return difference.leastSize;
    }

    public int differAt(int place) {
        return difference.leastAt(place);
    }

    // ---- Texts that are alike.

    public int unlike(int text) throws IndexOutOfBoundsException {
        return demandText(text).countUnlike();
    }

    public int common(int text, int other) throws IndexOutOfBoundsException {
        Text first = demandText(text);
        Text second = demandText(other);
        return first.countCommon(second);
    }

    public int nearest(int text) throws IndexOutOfBoundsException {
        Text asked = demandText(text);
        int unlikeAsked = asked.countUnlike();
        int best = NONE;
        int bestCommon = 0;
        int bestUnion = 1;
        for (int i = 0; i < TEXTS; i++) {
            Text other = shelf[i];
            if (i == text || other == null) {
                continue;
            }
            int same = asked.countCommon(other);
            int union = unlikeAsked + other.countUnlike() - same;
            // Two texts without words have 0 of 0 in common, which counts as 0 of 1.
            if (best == NONE || same * bestUnion > bestCommon * union) {
                best = i;
                bestCommon = same;
                bestUnion = Math.max(union, 1);
            }
        }
        return best;
    }

    // ---- Figures and second ways.

    public double meanLength() {
        int sum = 0;
        int count = 0;
        for (int i = 0; i < TEXTS; i++) {
            if (shelf[i] != null) {
                sum += shelf[i].size();
                count++;
            }
        }
        return count == 0 ? 0.0 : (double) sum / (double) count;
    }

    public float share(int word) throws IllegalArgumentException {
        int with = textsWith(word);
        int count = texts();
        return count == 0 ? 0.0f : (float) with / (float) count;
    }

    public int errors() {
        int wrong = dictionary.countWrongWords(shelf);
        for (int i = 0; i < KEPT; i++) {
            if (kept[i] != null && isFoundWrongly(i)) {
                wrong++;
            }
        }
        return wrong;
    }

    // ---- What several calls need.

    private Text demandText(int number) {
        if (number < 0 || number >= TEXTS || shelf[number] == null) {
            throw new IndexOutOfBoundsException();
        }
        return shelf[number];
    }

    private static void demandPlace(Text text, int place) {
        if (place < 0 || place >= text.size()) {
            throw new IndexOutOfBoundsException();
        }
    }

    private static void demandWord(int word) {
        if (!Word.isNumber(word)) {
            throw new IllegalArgumentException();
        }
    }

    private static void demandKeptPlace(int place) {
        if (place < 0 || place >= KEPT) {
            throw new IllegalArgumentException();
        }
    }

    /** The kept query at a place from 0 to 5. */
    private Node demandKept(int place) {
        if (kept[place] == null) {
            throw new NoSuchElementException();
        }
        return kept[place];
    }

    private int freeNumber() {
        for (int i = 0; i < TEXTS; i++) {
            if (shelf[i] == null) {
                return i;
            }
        }
        return NONE;
    }

    private void change(int number, Text now) {
        past.remember(number, shelf[number]);
        exchange(number, now);
    }

    /** Puts a text, or none, in place of what has the number, and tells it to the kept queries. */
    private void exchange(int number, Text now) {
        dictionary.follow(number, shelf[number], now);
        shelf[number] = now;
        for (int i = 0; i < KEPT; i++) {
            if (kept[i] == null) {
                continue;
            }
            boolean isFound = isSatisfied(kept[i], number);
            if (keptFound[i].turn(number, isFound)) {
                told.record(i, number, isFound);
            }
        }
    }

    private boolean isSatisfied(Node query, int number) {
        return shelf[number] != null && Node.isMet(query, shelf[number], 0);
    }

    private int keepQuery(int place, Node query) {
        kept[place] = query;
        TextSet found = keptFound[place];
        found.clear();
        for (int i = 0; i < TEXTS; i++) {
            if (isSatisfied(query, i)) {
                found.put(i);
            }
        }
        return found.size();
    }

    private int countFound(Node query) {
        int count = 0;
        for (int i = 0; i < TEXTS; i++) {
            if (isSatisfied(query, i)) {
                count++;
            }
        }
        return count;
    }

    private boolean isFoundWrongly(int place) {
        for (int i = 0; i < TEXTS; i++) {
            if (keptFound[place].has(i) != isSatisfied(kept[place], i)) {
                return true;
            }
        }
        return false;
    }

    private static ArrayList<Node> simplePartsOf(Node query) {
        ArrayList<Node> simple = new ArrayList<Node>();
        Node.gatherSimple(query, simple, 0);
        return simple;
    }

    /** A word of the index with the texts that have it, and what the number of a word says. */
    private static final class Word {
        private static final int LETTERS = 6;
        private static final int BASE = 27;
        /** The powers of 27, from 1 on. */
        private static final int[] POWERS = {1, 27, 729, 19683, 531441, 14348907, 387420489};

        private final int number;
        private final int order;
        private final TextSet within;

        Word(int number, int order) {
            this.number = number;
            this.order = order;
            within = new TextSet();
        }

        static boolean isNumber(int number) {
            if (number < 1 || number >= POWERS[LETTERS]) {
                return false;
            }
            for (int rest = number; rest > 0; rest /= BASE) {
                if (rest % BASE == 0) {
                    return false;
                }
            }
            return true;
        }

        static int lettersOf(int number) {
            int letters = 0;
            while (letters < LETTERS && number >= POWERS[letters]) {
                letters++;
            }
            return letters;
        }

        /** Filled up to six letters with blanks of value 0, numbers are in the order of a dictionary. */
        static int orderOf(int number) {
            return number * POWERS[LETTERS - lettersOf(number)];
        }

        /** The least order that is behind all words that begin with this one. */
        static int orderBehindBeginning(int number) {
            return (number + 1) * POWERS[LETTERS - lettersOf(number)];
        }

        /** A letter by its index from the left, which is below the number of letters. */
        static char letterOf(int number, int index) {
            int behind = lettersOf(number) - 1 - index;
            if (behind < 0 || behind >= LETTERS) {
                return ' ';
            }
            return (char) ('a' - 1 + number / POWERS[behind] % BASE);
        }

        static boolean isBeginning(int beginning, int number) {
            for (int rest = number; rest > 0; rest /= BASE) {
                if (rest == beginning) {
                    return true;
                }
            }
            return false;
        }

        static boolean isNeighbour(int number, int other) {
            int letters = lettersOf(number);
            int more = letters - lettersOf(other);
            if (more == 0) {
                return isOneChanged(number, other, letters);
            }
            if (more == 1) {
                return isOneLeftOut(number, other, letters);
            }
            return more == -1 && isOneLeftOut(other, number, letters + 1);
        }

        private static boolean isOneChanged(int number, int other, int letters) {
            for (int i = 0; i < letters && i < LETTERS; i++) {
                boolean isSameAhead = number / POWERS[i + 1] == other / POWERS[i + 1];
                boolean isSameBehind = number % POWERS[i] == other % POWERS[i];
                if (isSameAhead && isSameBehind) {
                    return number != other;
                }
            }
            return false;
        }

        private static boolean isOneLeftOut(int longer, int shorter, int letters) {
            for (int i = 0; i < letters && i < LETTERS; i++) {
                if (longer / POWERS[i + 1] * POWERS[i] + longer % POWERS[i] == shorter) {
                    return true;
                }
            }
            return false;
        }

        static void spellNumber(int number, StringBuilder out) {
            int letters = lettersOf(number);
            for (int i = 0; i < letters; i++) {
                out.append(letterOf(number, i));
            }
        }
    }

    /** A set of numbers of texts. */
    private static final class TextSet {
        private static final int HALF = 64;

        private long low;
        private long high;

        boolean has(int text) {
            if (text < 0 || text >= TEXTS) {
                return false;
            }
            long half = text < HALF ? low : high;
            return (half >>> (text % HALF) & 1L) != 0;
        }

        void put(int text) {
            if (text < HALF) {
                low |= 1L << text;
            } else {
                high |= 1L << (text - HALF);
            }
        }

        void take(int text) {
            if (text < HALF) {
                low &= ~(1L << text);
            } else {
                high &= ~(1L << (text - HALF));
            }
        }

        /** Puts a number in or takes it out; answers whether that made a difference. */
        boolean turn(int text, boolean isWithin) {
            if (has(text) == isWithin) {
                return false;
            }
            if (isWithin) {
                put(text);
            } else {
                take(text);
            }
            return true;
        }

        void clear() {
            low = 0;
            high = 0;
        }

        int size() {
            return Long.bitCount(low) + Long.bitCount(high);
        }

        int shared(TextSet other) {
            return Long.bitCount(low & other.low) + Long.bitCount(high & other.high);
        }

        /** The least number in the set that is not less than one of 0 or more. */
        int next(int from) {
            for (int i = from; i < TEXTS; i++) {
                if (has(i)) {
                    return i;
                }
            }
            return NONE;
        }
    }

    /** The words of a text. Once it is on the shelf it stays as it is, so that undo can put it back. */
    private static final class Text {
        static final int LIMIT = 40;

        private final int[] row = new int[LIMIT];
        private int count;

        int size() {
            return count;
        }

        int at(int place) {
            return place < 0 || place >= count ? NONE : row[place];
        }

        void add(int word) {
            if (count < LIMIT) {
                row[count] = word;
                count++;
            }
        }

        void clear() {
            count = 0;
        }

        Text withPut(int place, int word) {
            Text changed = new Text();
            for (int i = 0; i <= count; i++) {
                if (i == place) {
                    changed.add(word);
                }
                if (i < count) {
                    changed.add(row[i]);
                }
            }
            return changed;
        }

        Text withTaken(int place) {
            Text changed = new Text();
            for (int i = 0; i < count; i++) {
                if (i != place) {
                    changed.add(row[i]);
                }
            }
            return changed;
        }

        Text withSet(int place, int word) {
            Text changed = new Text();
            for (int i = 0; i < count; i++) {
                changed.add(i == place ? word : row[i]);
            }
            return changed;
        }

        boolean has(int word) {
            return placeOf(word, 0) != NONE;
        }

        int placeOf(int word, int index) {
            int left = index;
            for (int i = 0; i < count && left >= 0; i++) {
                if (row[i] == word) {
                    if (left == 0) {
                        return i;
                    }
                    left--;
                }
            }
            return NONE;
        }

        int countWord(int word) {
            int n = 0;
            for (int i = 0; i < count; i++) {
                if (row[i] == word) {
                    n++;
                }
            }
            return n;
        }

        int countBeginning(int beginning) {
            int n = 0;
            for (int i = 0; i < count; i++) {
                if (Word.isBeginning(beginning, row[i])) {
                    n++;
                }
            }
            return n;
        }

        int countNear(int first, int second, int most) {
            int n = 0;
            for (int i = 0; i < count; i++) {
                if (row[i] != first) {
                    continue;
                }
                for (int j = 0; j < count; j++) {
                    if (j != i && row[j] == second && Math.abs(i - j) <= most) {
                        n++;
                    }
                }
            }
            return n;
        }

        int countRow(int[] sought) {
            int n = 0;
            for (int i = 0; i + sought.length <= count; i++) {
                if (isRowAt(sought, i)) {
                    n++;
                }
            }
            return n;
        }

        private boolean isRowAt(int[] sought, int place) {
            for (int i = 0; i < sought.length; i++) {
                if (place + i >= count || row[place + i] != sought[i]) {
                    return false;
                }
            }
            return true;
        }

        int countUnlike() {
            int n = 0;
            for (int i = 0; i < count; i++) {
                if (placeOf(row[i], 0) == i) {
                    n++;
                }
            }
            return n;
        }

        int countCommon(Text other) {
            int n = 0;
            for (int i = 0; i < count; i++) {
                if (placeOf(row[i], 0) == i && other.has(row[i])) {
                    n++;
                }
            }
            return n;
        }
    }

    /** The bytes that the next call reads, and what came of the latest reading. */
    private static final class Tape {
        static final int LIMIT = 300;

        private final int[] bytes = new int[LIMIT];
        private int size;
        private int errorAt = NONE;

        static int bytesOf(int four) {
            int n = 0;
            for (int shift = 24; shift >= 0; shift -= 8) {
                if ((four >>> shift & 255) != 0) {
                    n++;
                }
            }
            return n;
        }

        void addBytes(int four) {
            for (int shift = 24; shift >= 0; shift -= 8) {
                int next = four >>> shift & 255;
                if (next != 0 && size < LIMIT) {
                    bytes[size] = next;
                    size++;
                }
            }
        }

        /** Ends a reading: the tape is read only once. */
        void finish(int error) {
            size = 0;
            errorAt = error;
        }

        /** Reads a text; null if it has an error. */
        Text takeText() {
            Text read = new Text();
            int error = fillText(read);
            finish(error);
            return error == NONE ? read : null;
        }

        private int fillText(Text read) {
            int letters = 0;
            int number = 0;
            for (int i = 0; i < size; i++) {
                int letter = letterAtByte(bytes[i]);
                if (letter == 0) {
                    if (letters > 0) {
                        read.add(number);
                    }
                    letters = 0;
                    number = 0;
                    continue;
                }
                letters++;
                number = number * Word.BASE + letter;
                if (letters > Word.LETTERS || read.size() == Text.LIMIT) {
                    return i - letters + 1;
                }
            }
            if (letters > 0) {
                read.add(number);
            }
            return NONE;
        }

        /** The place of a letter in the alphabet, from 1 on; 0 for another byte. */
        private static int letterAtByte(int value) {
            if (value >= 'a' && value <= 'z') {
                return value - 'a' + 1;
            }
            return value >= 'A' && value <= 'Z' ? value - 'A' + 1 : 0;
        }
    }

    /** The words of all texts, in the order of a dictionary; the places are read from the texts themselves. */
    private static final class Index {
        private final ArrayList<Word> entries = new ArrayList<Word>();
        /** How many words have so many texts; only while frequentAt() runs. */
        private final int[] tally = new int[TEXTS + 1];

        int size() {
            return entries.size();
        }

        int numberAt(int index) {
            return index < 0 || index >= entries.size() ? NONE : entries.get(index).number;
        }

        /** Counts the words whose order is less than this one. */
        int countAhead(int order) {
            int low = 0;
            int high = entries.size();
            for (int turn = 0; turn < 32 && low < high; turn++) {
                int middle = (low + high) / 2;
                if (entries.get(middle).order < order) {
                    low = middle + 1;
                } else {
                    high = middle;
                }
            }
            return low;
        }

        Word find(int number) {
            int at = countAhead(Word.orderOf(number));
            if (at >= entries.size() || entries.get(at).number != number) {
                return null;
            }
            return entries.get(at);
        }

        /** Follows a text that changes from one row of words to another; null stands for no text. */
        void follow(int text, Text old, Text now) {
            if (now != null) {
                for (int i = 0; i < now.size(); i++) {
                    enter(now.at(i), text);
                }
            }
            if (old != null) {
                for (int i = 0; i < old.size(); i++) {
                    if (now == null || !now.has(old.at(i))) {
                        strike(old.at(i), text);
                    }
                }
            }
        }

        private void enter(int number, int text) {
            int order = Word.orderOf(number);
            int at = countAhead(order);
            if (at >= entries.size() || entries.get(at).number != number) {
                entries.add(at, new Word(number, order));
            }
            entries.get(at).within.put(text);
        }

        private void strike(int number, int text) {
            int at = countAhead(Word.orderOf(number));
            if (at >= entries.size() || entries.get(at).number != number) {
                return;
            }
            entries.get(at).within.take(text);
            if (entries.get(at).within.size() == 0) {
                entries.remove(at);
            }
        }

        int frequentAt(int rank) {
            if (rank < 0 || rank >= entries.size()) {
                return NONE;
            }
            countTally();
            int left = rank;
            int most = TEXTS;
            while (most > 0 && left >= tally[most]) {
                left -= tally[most];
                most--;
            }
            for (int i = 0; i < entries.size(); i++) {
                if (entries.get(i).within.size() == most) {
                    if (left == 0) {
                        return entries.get(i).number;
                    }
                    left--;
                }
            }
            return NONE;
        }

        private void countTally() {
            for (int i = 0; i <= TEXTS; i++) {
                tally[i] = 0;
            }
            for (int i = 0; i < entries.size(); i++) {
                int texts = entries.get(i).within.size();
                if (texts <= TEXTS) {
                    tally[texts]++;
                }
            }
        }

        int companionOf(int number) {
            Word asked = find(number);
            int best = NONE;
            int bestShared = 0;
            for (int i = 0; asked != null && i < entries.size(); i++) {
                Word other = entries.get(i);
                int shared = asked.within.shared(other.within);
                if (other != asked && shared > bestShared) {
                    best = other.number;
                    bestShared = shared;
                }
            }
            return best;
        }

        int countNeighbours(int number) {
            int n = 0;
            for (int i = 0; i < entries.size(); i++) {
                if (Word.isNeighbour(number, entries.get(i).number)) {
                    n++;
                }
            }
            return n;
        }

        int neighbourOf(int number, int index) {
            int left = index;
            for (int i = 0; i < entries.size() && left >= 0; i++) {
                if (Word.isNeighbour(number, entries.get(i).number)) {
                    if (left == 0) {
                        return entries.get(i).number;
                    }
                    left--;
                }
            }
            return NONE;
        }

        int countWrongWords(Text[] shelf) {
            ArrayList<Integer> wrong = new ArrayList<Integer>();
            for (int i = 0; i < entries.size(); i++) {
                if (tellsTooMuch(entries.get(i), shelf)) {
                    addOnce(wrong, entries.get(i).number);
                }
            }
            for (int i = 0; i < shelf.length; i++) {
                if (shelf[i] != null) {
                    addMissing(wrong, shelf[i], i);
                }
            }
            return wrong.size();
        }

        private static boolean tellsTooMuch(Word entry, Text[] shelf) {
            for (int i = 0; i < shelf.length; i++) {
                if (entry.within.has(i) && (shelf[i] == null || !shelf[i].has(entry.number))) {
                    return true;
                }
            }
            return entry.within.size() == 0;
        }

        private void addMissing(ArrayList<Integer> wrong, Text text, int number) {
            for (int i = 0; i < text.size(); i++) {
                Word entry = find(text.at(i));
                if (entry == null || !entry.within.has(number)) {
                    addOnce(wrong, text.at(i));
                }
            }
        }

        private static void addOnce(ArrayList<Integer> wrong, int number) {
            for (int i = 0; i < wrong.size(); i++) {
                int known = wrong.get(i);
                if (known == number) {
                    return;
                }
            }
            wrong.add(number);
        }
    }

    /** The changes that can be undone: what the changed texts were ahead of them. */
    private static final class Past {
        static final int LIMIT = 20;

        private final int[] numbers = new int[LIMIT];
        private final Text[] olds = new Text[LIMIT];
        private int oldest;
        private int count;

        void remember(int number, Text old) {
            if (count == LIMIT) {
                oldest = (oldest + 1) % LIMIT;
                count--;
            }
            count++;
            numbers[latestSlot()] = number;
            olds[latestSlot()] = old;
        }

        int latestNumber() {
            return numbers[latestSlot()];
        }

        Text latestText() {
            return olds[latestSlot()];
        }

        void forgetLatest() {
            if (count > 0) {
                count--;
            }
        }

        private int latestSlot() {
            return (oldest + Math.max(count, 1) - 1) % LIMIT;
        }
    }

    /** The latest events, the oldest first. */
    private static final class Events {
        static final int LIMIT = 100;

        private final int[] keptPlaces = new int[LIMIT];
        private final int[] numbers = new int[LIMIT];
        private final int[] comings = new int[LIMIT];
        private int oldest;
        private int count;

        void record(int place, int number, boolean isComing) {
            if (count == LIMIT) {
                oldest = (oldest + 1) % LIMIT;
                count--;
            }
            int slot = (oldest + count) % LIMIT;
            keptPlaces[slot] = place;
            numbers[slot] = number;
            comings[slot] = isComing ? 1 : 0;
            count++;
        }

        int figure(int event, int what) {
            if (event < 0 || event >= count) {
                return NONE;
            }
            int slot = (oldest + event) % LIMIT;
            switch (what) {
                case 0:
                    return keptPlaces[slot];
                case 1:
                    return numbers[slot];
                default:
                    return comings[slot];
            }
        }
    }

    /** What the latest query found, as it was then. */
    private static final class Found {
        private final int[] numbers = new int[TEXTS];
        private final int[] ranked = new int[TEXTS];
        private final int[] scores = new int[TEXTS];
        private int count;

        void fill(Node query, Text[] shelf) {
            count = 0;
            for (int i = 0; i < shelf.length; i++) {
                if (shelf[i] != null && Node.isMet(query, shelf[i], 0)) {
                    insert(i, Node.score(query, shelf[i], true, 0));
                }
            }
        }

        private void insert(int number, int score) {
            if (count >= TEXTS) {
                return;
            }
            numbers[count] = number;
            int rank = count;
            // Only a lesser score gives way: of the same score the lesser number is there already.
            while (rank > 0 && scores[rank - 1] < score) {
                ranked[rank] = ranked[rank - 1];
                scores[rank] = scores[rank - 1];
                rank--;
            }
            ranked[rank] = number;
            scores[rank] = score;
            count++;
        }

        int numberAt(int index) {
            return index < 0 || index >= count ? NONE : numbers[index];
        }

        int rankedAt(int rank) {
            return rank < 0 || rank >= count ? NONE : ranked[rank];
        }

        int scoreOf(int rank) {
            return rank < 0 || rank >= count ? NONE : scores[rank];
        }
    }

    /** A query: a simple part, or what stands under a "!", or parts that are joined. It never changes once read. */
    private static final class Node {
        static final int WORD = 0;
        static final int BEGINNING = 1;
        static final int NEAR = 2;
        static final int ROW = 3;
        static final int NOT = 4;
        static final int AND = 5;
        static final int OR = 6;

        /** Far above what eight open signs can nest; it only bounds the recursion. */
        private static final int DEEPEST = 40;
        private static final int[] NO_WORDS = {};

        private final int kind;
        private final int[] sought;
        private final int most;
        private final ArrayList<Node> below;

        private Node(int kind, int[] sought, int most) {
            this.kind = kind;
            this.sought = sought;
            this.most = most;
            below = new ArrayList<Node>();
        }

        static Node simple(int kind, int[] sought, int most) {
            return new Node(kind, sought, most);
        }

        static Node joined(int kind) {
            return new Node(kind, NO_WORDS, 0);
        }

        static Node not(Node node) {
            Node not = joined(NOT);
            not.below.add(node);
            return not;
        }

        private boolean isSimple() {
            return kind <= ROW;
        }

        private int soughtAt(int index) {
            return index < 0 || index >= sought.length ? NONE : sought[index];
        }

        /** How often a text meets this simple part. */
        private int countMeetings(Text text) {
            switch (kind) {
                case WORD:
                    return text.countWord(soughtAt(0));
                case BEGINNING:
                    return text.countBeginning(soughtAt(0));
                case NEAR:
                    return text.countNear(soughtAt(0), soughtAt(1), most);
                case ROW:
                    return text.countRow(sought);
                default:
                    return 0;
            }
        }

        private static boolean isMet(Node node, Text text, int depth) {
            if (depth > DEEPEST) {
                return false;
            }
            if (node.isSimple()) {
                return node.countMeetings(text) > 0;
            }
            for (int i = 0; i < node.below.size(); i++) {
                boolean isPartMet = isMet(node.below.get(i), text, depth + 1);
                if (node.kind == OR && isPartMet) {
                    return true;
                }
                if (node.kind == AND && !isPartMet || node.kind == NOT && isPartMet) {
                    return false;
                }
            }
            return node.kind != OR;
        }

        private static int score(Node node, Text text, boolean isCounted, int depth) {
            if (depth > DEEPEST) {
                return 0;
            }
            if (node.isSimple()) {
                return isCounted ? node.countMeetings(text) : 0;
            }
            boolean isCountedBelow = node.kind == NOT ? !isCounted : isCounted;
            int sum = 0;
            for (int i = 0; i < node.below.size(); i++) {
                sum += score(node.below.get(i), text, isCountedBelow, depth + 1);
            }
            return sum;
        }

        private static Node negated(Node node, int depth) {
            if (depth > DEEPEST || node.isSimple()) {
                return not(node);
            }
            if (node.kind == NOT && node.below.size() > 0) {
                return node.below.get(0);
            }
            Node turned = joined(node.kind == AND ? OR : AND);
            for (int i = 0; i < node.below.size(); i++) {
                turned.below.add(negated(node.below.get(i), depth + 1));
            }
            return turned;
        }

        private static void gatherSimple(Node node, ArrayList<Node> simple, int depth) {
            if (depth > DEEPEST) {
                return;
            }
            if (node.isSimple()) {
                simple.add(node);
            }
            for (int i = 0; i < node.below.size(); i++) {
                gatherSimple(node.below.get(i), simple, depth + 1);
            }
        }

        private static void spell(Node node, StringBuilder out, int depth) {
            if (depth > DEEPEST) {
                return;
            }
            if (node.isSimple()) {
                node.spellSimple(out);
            }
            if (node.kind == NOT) {
                out.append('!');
            }
            for (int i = 0; i < node.below.size(); i++) {
                Node part = node.below.get(i);
                boolean isBracketed = needsBrackets(node.kind, part.kind);
                if (i > 0) {
                    out.append(node.kind == AND ? '&' : '|');
                }
                if (isBracketed) {
                    out.append('(');
                }
                spell(part, out, depth + 1);
                if (isBracketed) {
                    out.append(')');
                }
            }
        }

        private static boolean needsBrackets(int kindAround, int kind) {
            return kind == OR || kind == AND && kindAround != OR;
        }

        private void spellSimple(StringBuilder out) {
            if (kind == ROW) {
                out.append('[');
            }
            for (int i = 0; i < sought.length; i++) {
                if (i > 0 && kind == ROW) {
                    out.append(' ');
                }
                if (i > 0 && kind == NEAR) {
                    out.append('~');
                    out.append(most);
                }
                Word.spellNumber(sought[i], out);
            }
            if (kind == ROW) {
                out.append(']');
            }
            if (kind == BEGINNING) {
                out.append('*');
            }
        }
    }

    /** Reads the query on the tape, a token ahead. */
    private static final class QueryReader {
        private static final int WORD_LIMIT = 20;
        private static final int OPEN_LIMIT = 8;
        private static final int DISTANCE_LIMIT = 40;

        /** The kinds of tokens that are no signs; a sign is its own kind. */
        private static final int END = 0;
        private static final int WRONG = 1;
        private static final int WORD = 2;
        private static final int NUMBER = 3;

        private final Tape tape;
        private final int[] row = new int[WORD_LIMIT];
        /** The index of the byte behind the token. */
        private int behind;
        private int token;
        private int tokenStart;
        private int tokenValue;
        private int wordsRead;
        private int errorAt;

        QueryReader(Tape tape) {
            this.tape = tape;
        }

        /** Reads the whole tape; null if it has an error. */
        Node takeQuery() {
            behind = 0;
            wordsRead = 0;
            errorAt = NONE;
            advance();
            Node query = readQuery(0);
            if (query != null && token != END) {
                query = fail();
            }
            tape.finish(errorAt);
            return query;
        }

        private Node fail() {
            errorAt = tokenStart;
            return null;
        }

        private Node readQuery(int open) {
            Node first = readBoth(open);
            if (first == null || token != '|') {
                return first;
            }
            Node either = Node.joined(Node.OR);
            either.below.add(first);
            for (int i = 0; i < WORD_LIMIT && token == '|'; i++) {
                advance();
                Node next = readBoth(open);
                if (next == null) {
                    return null;
                }
                either.below.add(next);
            }
            return either;
        }

        private Node readBoth(int open) {
            Node first = readPlain(open);
            if (first == null || token != '&') {
                return first;
            }
            Node both = Node.joined(Node.AND);
            both.below.add(first);
            for (int i = 0; i < WORD_LIMIT && token == '&'; i++) {
                advance();
                Node next = readPlain(open);
                if (next == null) {
                    return null;
                }
                both.below.add(next);
            }
            return both;
        }

        private Node readPlain(int open) {
            if (token == WORD) {
                return readWord();
            }
            if (token == '[') {
                return readRow();
            }
            if (token != '!' && token != '(' || open >= OPEN_LIMIT) {
                return fail();
            }
            boolean isNot = token == '!';
            advance();
            Node inner = isNot ? readPlain(open + 1) : readQuery(open + 1);
            if (inner == null || isNot) {
                return inner == null ? null : Node.not(inner);
            }
            if (token != ')') {
                return fail();
            }
            advance();
            return inner;
        }

        private Node readWord() {
            int first = tokenValue;
            advance();
            if (token == '*') {
                advance();
                return Node.simple(Node.BEGINNING, new int[] {first}, 0);
            }
            if (token != '~') {
                return Node.simple(Node.WORD, new int[] {first}, 0);
            }
            advance();
            int most = tokenValue;
            if (token != NUMBER) {
                return fail();
            }
            advance();
            int second = tokenValue;
            if (token != WORD) {
                return fail();
            }
            advance();
            return Node.simple(Node.NEAR, new int[] {first, second}, most);
        }

        private Node readRow() {
            int size = 0;
            advance();
            while (size < WORD_LIMIT && token == WORD) {
                row[size] = tokenValue;
                size++;
                advance();
            }
            if (size == 0 || token != ']') {
                return fail();
            }
            advance();
            int[] sought = new int[size];
            System.arraycopy(row, 0, sought, 0, size);
            return Node.simple(Node.ROW, sought, 0);
        }

        private void advance() {
            while (behind < tape.size && (tape.bytes[behind] == ' ' || tape.bytes[behind] == '\n')) {
                behind++;
            }
            tokenStart = behind;
            tokenValue = 0;
            token = END;
            if (behind >= tape.size) {
                return;
            }
            int first = tape.bytes[behind];
            if (first >= 'a' && first <= 'z') {
                advanceWord();
            } else if (first >= '0' && first <= '9') {
                advanceNumber();
            } else {
                token = isSign(first) ? first : WRONG;
                behind++;
            }
        }

        private void advanceWord() {
            while (behind < tape.size && tape.bytes[behind] >= 'a' && tape.bytes[behind] <= 'z') {
                tokenValue = tokenValue * Word.BASE + tape.bytes[behind] - 'a' + 1;
                behind++;
            }
            wordsRead++;
            boolean isWord = behind - tokenStart <= Word.LETTERS && wordsRead <= WORD_LIMIT;
            token = isWord ? WORD : WRONG;
        }

        private void advanceNumber() {
            while (behind < tape.size && tape.bytes[behind] >= '0' && tape.bytes[behind] <= '9') {
                tokenValue = tokenValue * 10 + tape.bytes[behind] - '0';
                behind++;
            }
            boolean isNumber = behind - tokenStart <= 2 && tokenValue >= 1 && tokenValue <= DISTANCE_LIMIT;
            token = isNumber ? NUMBER : WRONG;
        }

        private static boolean isSign(int value) {
            switch (value) {
                case '|':
                case '&':
                case '!':
                case '(':
                case ')':
                case '*':
                case '~':
                case '[':
                case ']':
                    return true;
                default:
                    return false;
            }
        }
    }

    /** The least text that satisfies just one of two queries that have only words as simple parts. */
    private static final class Difference {
        private static final int WORD_LIMIT = 10;

        /** The unlike words of both queries, in the order of a dictionary. */
        private final int[] choice = new int[WORD_LIMIT];
        private int choices;
        private final Text trial = new Text();
        private final int[] least = new int[WORD_LIMIT];
        private int leastSize = NONE;

        void forgetWords() {
            choices = 0;
        }

        /** Answers false if there is another simple part than a word, or too many unlike words. */
        boolean gatherWords(ArrayList<Node> simple) {
            for (int i = 0; i < simple.size(); i++) {
                Node part = simple.get(i);
                if (part.kind != Node.WORD || !addChoice(part.soughtAt(0))) {
                    return false;
                }
            }
            return true;
        }

        private boolean addChoice(int word) {
            int order = Word.orderOf(word);
            int at = 0;
            while (at < choices && Word.orderOf(choice[at]) < order) {
                at++;
            }
            if (at < choices && choice[at] == word) {
                return true;
            }
            if (choices >= WORD_LIMIT) {
                return false;
            }
            for (int i = choices; i > at; i--) {
                choice[i] = choice[i - 1];
            }
            choice[at] = word;
            choices++;
            return true;
        }

        /** The order of words in a text does not matter to such queries, so each choice is tried in dictionary order. */
        void search(Node first, Node second) {
            leastSize = NONE;
            // The first word is the highest bit: of as many words the greater mask is ahead in the dictionary.
            for (int mask = (1 << choices) - 1; mask >= 0; mask--) {
                if (leastSize == NONE || Integer.bitCount(mask) < leastSize) {
                    fillTrial(mask);
                    if (Node.isMet(first, trial, 0) != Node.isMet(second, trial, 0)) {
                        takeTrial();
                    }
                }
            }
        }

        private void fillTrial(int mask) {
            trial.clear();
            for (int i = 0; i < choices; i++) {
                if ((mask >>> (choices - 1 - i) & 1) != 0) {
                    trial.add(choice[i]);
                }
            }
        }

        private void takeTrial() {
            leastSize = Math.min(trial.size(), WORD_LIMIT);
            for (int i = 0; i < leastSize; i++) {
                least[i] = trial.at(i);
            }
        }

        int leastAt(int place) {
            return place < 0 || place >= leastSize ? NONE : least[place];
        }
    }
}
