import java.util.List;
import java.util.function.Function;
import java.util.function.Supplier;

/** Section 7 and promises 1 to 56: the ends of each parameter, what is thrown first, and what a refused call leaves. */
public final class CallsBoundaryTest {
    private static final String ISE = "throws IllegalStateException";
    private static final String IAE = "throws IllegalArgumentException";
    private static final String IOOBE = "throws IndexOutOfBoundsException";
    private static final String NSEE = "throws NoSuchElementException";

    private static final int MIN = Integer.MIN_VALUE;
    private static final int MAX = Integer.MAX_VALUE;
    private static final int A = 1;
    private static final int CAT = Checks.word("cat");
    private static final int DOG = Checks.word("dog");
    private static final int ZZZZZZ = Checks.word("zzzzzz");

    /** Numbers of no word: below the least one, a letter of 0, and above the greatest one. */
    private static final int[] NO_WORDS = {MIN, -1, 0, 27, 730, ZZZZZZ + 1, Checks.word("aaaaaaa"), MAX};
    /** Numbers of no text of Twins.busy(), which has the texts 0, 2, 3 and 4. */
    private static final int[] NO_TEXTS = {MIN, -1, 1, 5, 63, 64, 99, 100, MAX};
    /** Places where no query can be kept. */
    private static final int[] NO_PLACES = {MIN, -1, 6, 7, MAX};

    public static void main(String[] args) {
        newObject();
        objectsApart();
        append();
        appendRefused();
        clearTape();
        errorPosition();
        refusalsOfTexts();
        refusalsOfPlaces();
        refusalsOfWords();
        refusalsOfKeptPlaces();
        refusalsOfKeptQueries();
        refusalsOfIndexes();
        refusalsOfNothing();
        refusalsOfComparing();
        refusedReadings();
        firstOfSeveralExceptions();
        nothingToTell();
        readingCallsChangeNothing();
        addAndReplace();
        putTakeSet();
        nextText();
        places();
        index();
        nextWith();
        foundOfTheLatest();
        keep();
        keepNot();
        drop();
        parts();
        written();
        eventOf();
        differAt();
        figures();
        Checks.end("CallsBoundaryTest");
    }

    private static void due(String what, Object want, Checks.Call call) {
        Checks.due(what, want, call);
    }

    private static void refused(String what, String exception, Function<WordFinder, Object> call) {
        Twins.refused(what, exception, Twins::busy, call);
    }

    /** A call with one number in turn: each is refused. */
    private static void refusedAll(String what, String exception, int[] numbers, Call call) {
        for (int number : numbers) {
            refused(what + " with " + number, exception, x -> call.of(x, number));
        }
    }

    private interface Call {
        Object of(WordFinder x, int number);
    }

    // ---- Promises 1 to 4.

    /** "A finder without texts, kept queries and events, with an empty tape, as if nothing had been asked or compared." */
    private static void newObject() {
        WordFinder x = new WordFinder();
        due("no texts", "0 -1 0", () -> x.texts() + " " + x.nextText(MIN) + " " + x.words());
        due("no events", "0 0", () -> x.events() + " " + x.undoable());
        due("nothing asked", "-1 -1 -1", () -> x.foundAt(0) + " " + x.rankAt(0) + " " + x.scoreAt(0));
        due("nothing compared", -1, () -> x.differAt(0));
        due("nothing written", IOOBE, () -> x.writtenAt(0));
        due("nothing read", -1, x::errorPosition);
        due("nothing to undo", -1, x::undo);
        due("no errors", 0, x::errors);
        due("no mean", 0.0, x::meanLength);
        due("no share", 0.0f, () -> x.share(A));
        for (int i = 0; i < 6; i++) {
            int place = i;
            due("none kept at " + i, NSEE, () -> x.write(place));
            due("none to drop at " + i, false, () -> x.drop(place));
        }
        due("empty tape", 0, x::clearTape);
        due("the first text", 0, x::addText);
        due("without words", 0, () -> x.length(0));
    }

    /** What one object is told is not known to another one, made ahead of it or behind it. */
    private static void objectsApart() {
        WordFinder ahead = new WordFinder();
        WordFinder x = Twins.busy();
        WordFinder behind = new WordFinder();
        for (WordFinder other : List.of(ahead, behind)) {
            due("texts apart", 0, other::texts);
            due("words apart", 0, other::words);
            due("events apart", 0, other::events);
            due("changes apart", 0, other::undoable);
            due("found apart", -1, () -> other.foundAt(0));
            due("least apart", -1, () -> other.differAt(0));
            due("written apart", IOOBE, () -> other.writtenAt(0));
            due("kept apart", NSEE, () -> other.parts(0));
            due("error apart", -1, other::errorPosition);
            due("tape apart", 0, other::clearTape);
        }
        due("the busy one", 4, x::texts);
    }

    /** "The most significant byte first, in the order of the parameters. Bytes that are 0 are left out." */
    private static void append() {
        WordFinder x = new WordFinder();
        due("zeros", 0, () -> x.append(0, 0, 0, 0, 0));
        for (int i = 0; i < 20; i++) {
            int at = i;
            WordFinder y = new WordFinder();
            due("one byte at " + i, 1, () -> one(y, at, 'q'));
            due("one word of it", "q", () -> Checks.text(y, y.addText()));
            WordFinder z = new WordFinder();
            z.append('x', 0, 0, 0, 0);
            due("a greatest byte at " + i, 2, () -> one(z, at, 255));
            z.append('y', 0, 0, 0, 0);
            due("it separates words", "x y", () -> Checks.text(z, z.addText()));
        }
        due("twenty bytes", 20, () -> Checks.feed(x, "abcde fghij klmno pq"));
        due("in their order", "abcde fghij klmno pq", () -> Checks.text(x, x.addText()));
        due("all bits", 20, () -> x.append(-1, -1, -1, -1, -1));
        due("least number", 21, () -> x.append(MIN, 0, 0, 0, 0));
        due("greatest number", 25, () -> x.append(MAX, 0, 0, 0, 0));
        due("a zero among them", 28, () -> x.append(0x61006263, 0, 0, 0, 0));
    }

    /** Appends one byte at a place from 0 to 19. */
    private static int one(WordFinder x, int at, int value) {
        int[] parameters = new int[5];
        parameters[at / 4] = value << 24 - 8 * (at % 4);
        return x.append(parameters[0], parameters[1], parameters[2], parameters[3], parameters[4]);
    }

    private static WordFinder tapeOf(int bytes) {
        WordFinder x = Twins.busy();
        x.clearTape();
        Checks.feed(x, Checks.repeat("-", bytes));
        return x;
    }

    /** "If the tape would have more than 300 bytes", by 1 to 20 bytes. */
    private static void appendRefused() {
        for (int bytes = 1; bytes <= 20; bytes++) {
            int left = 300 - bytes;
            String more = Checks.repeat("b", bytes);
            due("up to 300 by " + bytes, 300, () -> Checks.feed(tapeOf(left), more));
            Twins.refused("up to 301 by " + bytes, ISE, () -> tapeOf(left + 1), x -> Checks.feed(x, more));
            Twins.refused("above 300 by " + bytes, ISE, () -> tapeOf(300), x -> Checks.feed(x, more));
        }
        due("nothing to 300", 300, () -> tapeOf(300).append(0, 0, 0, 0, 0));
        for (int i = 0; i < 20; i++) {
            int at = i;
            due("the 301st byte at " + i, ISE, () -> one(tapeOf(300), at, 1));
            due("the 300th byte at " + i, 300, () -> one(tapeOf(299), at, 1));
        }
        due("room again", 1, () -> {
            WordFinder x = tapeOf(300);
            x.clearTape();
            return x.append(0, 0, 0, 0, 'b');
        });
        due("room again behind a reading", 20, () -> {
            WordFinder x = tapeOf(300);
            x.addText();
            return x.append(-1, -1, -1, -1, -1);
        });
    }

    /** "Returns the number of bytes that were on it", from 0 to 300. */
    private static void clearTape() {
        for (int bytes : new int[] {0, 1, 19, 20, 21, 299, 300}) {
            WordFinder x = tapeOf(bytes);
            due("error position ahead", 0, x::errorPosition);
            due("had " + bytes, bytes, x::clearTape);
            due("has none", 0, x::clearTape);
            due("error position stays", 0, x::errorPosition);
            due("nothing is read", "", () -> Checks.text(x, x.addText()));
        }
    }

    /** "NONE if there was no error, or no such call yet": set by the four calls that read the tape, and by no other. */
    private static void errorPosition() {
        List<Function<WordFinder, Object>> readers = List.of(WordFinder::addText, x -> x.replaceText(0), WordFinder::ask,
            x -> x.keep(1));
        for (int i = 0; i < readers.size(); i++) {
            Function<WordFinder, Object> reader = readers.get(i);
            WordFinder x = Checks.with("cat");
            for (int error : new int[] {0, 1, 293}) {
                Checks.feed(x, Checks.repeat(" ", error) + "toolong");
                due("reader " + i, IAE, () -> reader.apply(x));
                due("its error", error, x::errorPosition);
                due("its tape", 0, x::clearTape);
                Checks.keep(x, 2, "cat");
                due("none by keeping", -1, x::errorPosition);
                Checks.feed(x, Checks.repeat(" ", error) + "abcdefg");
                Checks.outcome(() -> reader.apply(x));
                x.append(0, 0, 0, 0, 'a');
                x.clearTape();
                x.askKept(2);
                x.keepNot(3, 2);
                x.putWord(0, 0, A);
                x.undo();
                due("stays", error, x::errorPosition);
                Checks.feed(x, "dog");
                due("read", true, () -> reader.apply(x) instanceof Integer);
                due("no error", -1, x::errorPosition);
            }
        }
        due("at the end of a full tape", 300, () -> {
            WordFinder x = tapeOf(0);
            Checks.feed(x, Checks.repeat(" ", 300));
            Checks.outcome(x::ask);
            return x.errorPosition();
        });
    }

    // ---- Section 7: what is refused changes nothing.

    /** "A text that is not there .. cause an IndexOutOfBoundsException": each call that asks for a text. */
    private static void refusalsOfTexts() {
        refusedAll("replaceText", IOOBE, NO_TEXTS, WordFinder::replaceText);
        refusedAll("removeText", IOOBE, NO_TEXTS, WordFinder::removeText);
        refusedAll("putWord", IOOBE, NO_TEXTS, (x, text) -> x.putWord(text, 0, CAT));
        refusedAll("takeWord", IOOBE, NO_TEXTS, (x, text) -> x.takeWord(text, 0));
        refusedAll("setWord", IOOBE, NO_TEXTS, (x, text) -> x.setWord(text, 0, CAT));
        refusedAll("length", IOOBE, NO_TEXTS, WordFinder::length);
        refusedAll("wordAt", IOOBE, NO_TEXTS, (x, text) -> x.wordAt(text, 0));
        refusedAll("letterAt", IOOBE, NO_TEXTS, (x, text) -> (int) x.letterAt(text, 0, 0));
        refusedAll("placeIn", IOOBE, NO_TEXTS, (x, text) -> x.placeIn(CAT, text, 0));
        refusedAll("unlike", IOOBE, NO_TEXTS, WordFinder::unlike);
        refusedAll("common", IOOBE, NO_TEXTS, (x, text) -> x.common(text, 0));
        refusedAll("common, the other", IOOBE, NO_TEXTS, (x, text) -> x.common(0, text));
        refusedAll("nearest", IOOBE, NO_TEXTS, WordFinder::nearest);
        int[] below = {-1, -2, MIN};
        refusedAll("isIn", IOOBE, below, (x, text) -> x.isIn(CAT, text));
        refusedAll("nextWith", IOOBE, below, (x, text) -> x.nextWith(CAT, text));
        due("the last of a hundred", 2, () -> Twins.full().removeText(0));
        Twins.refused("text 100 of a hundred", IOOBE, Twins::full, x -> x.removeText(100));
        Twins.refused("a removed one of a hundred", IOOBE, () -> {
            WordFinder x = Twins.full();
            x.removeText(99);
            return x;
        }, x -> x.removeText(99));
    }

    /** "And a place that is not there": texts of 3, 0 and 40 words, and letters. */
    private static void refusalsOfPlaces() {
        int[] none = {MIN, -1, 3, 4, 39, 40, MAX};
        refusedAll("takeWord of 3", IOOBE, none, (x, place) -> x.takeWord(0, place));
        refusedAll("setWord of 3", IOOBE, none, (x, place) -> x.setWord(0, place, DOG));
        refusedAll("wordAt of 3", IOOBE, none, (x, place) -> x.wordAt(0, place));
        refusedAll("letterAt of 3", IOOBE, none, (x, place) -> (int) x.letterAt(0, place, 0));
        refusedAll("letter of cat", IOOBE, none, (x, letter) -> (int) x.letterAt(0, 0, letter));
        refusedAll("putWord to 3", IOOBE, new int[] {MIN, -1, 4, 5, 40, MAX}, (x, place) -> x.putWord(0, place, DOG));
        int[] noneOfNone = {MIN, -1, 0, 1, MAX};
        refusedAll("takeWord of 0", IOOBE, noneOfNone, (x, place) -> x.takeWord(2, place));
        refusedAll("setWord of 0", IOOBE, noneOfNone, (x, place) -> x.setWord(2, place, DOG));
        refusedAll("wordAt of 0", IOOBE, noneOfNone, (x, place) -> x.wordAt(2, place));
        refusedAll("putWord to 0", IOOBE, new int[] {-1, 1}, (x, place) -> x.putWord(2, place, DOG));
        for (int place : new int[] {-1, 41, MAX}) {
            Twins.refused("putWord to 40", IOOBE, Twins::loud, x -> x.putWord(0, place, DOG));
        }
        for (int place : new int[] {0, 1, 39, 40}) {
            Twins.refused("a 41st word at " + place, ISE, Twins::loud, x -> x.putWord(0, place, DOG));
        }
        Twins.refused("takeWord of 40", IOOBE, Twins::loud, x -> x.takeWord(0, 40));
        Twins.refused("setWord of 40", IOOBE, Twins::loud, x -> x.setWord(0, 40, DOG));
    }

    /** "The number of no word .. cause an IllegalArgumentException": each call that asks for a word. */
    private static void refusalsOfWords() {
        refusedAll("putWord", IAE, NO_WORDS, (x, word) -> x.putWord(0, 0, word));
        refusedAll("setWord", IAE, NO_WORDS, (x, word) -> x.setWord(0, 0, word));
        refusedAll("beside behind", IAE, NO_WORDS, (x, word) -> x.beside(word, true));
        refusedAll("beside ahead", IAE, NO_WORDS, (x, word) -> x.beside(word, false));
        refusedAll("between first", IAE, NO_WORDS, (x, word) -> x.between(word, ZZZZZZ));
        refusedAll("between second", IAE, NO_WORDS, (x, word) -> x.between(A, word));
        refusedAll("beginning", IAE, NO_WORDS, WordFinder::beginning);
        refusedAll("textsWith", IAE, NO_WORDS, WordFinder::textsWith);
        refusedAll("isIn", IAE, NO_WORDS, (x, word) -> x.isIn(word, 0));
        refusedAll("nextWith", IAE, NO_WORDS, (x, word) -> x.nextWith(word, 0));
        refusedAll("places", IAE, NO_WORDS, WordFinder::places);
        refusedAll("placeIn", IAE, NO_WORDS, (x, word) -> x.placeIn(word, 0, 0));
        refusedAll("together", IAE, NO_WORDS, (x, word) -> x.together(word, CAT));
        refusedAll("together, the other", IAE, NO_WORDS, (x, word) -> x.together(CAT, word));
        refusedAll("companion", IAE, NO_WORDS, WordFinder::companion);
        refusedAll("neighbours", IAE, NO_WORDS, WordFinder::neighbours);
        refusedAll("neighbourAt", IAE, NO_WORDS, (x, word) -> x.neighbourAt(word, 0));
        refusedAll("share", IAE, NO_WORDS, WordFinder::share);
        refused("between, turned", IAE, x -> x.between(DOG, CAT));
        refused("between, the beginning behind", IAE, x -> x.between(Checks.word("cats"), CAT));
        refused("between, by the number only", IAE, x -> x.between(Checks.word("d"), Checks.word("cats")));
    }

    /** "A place for kept queries that is not 0 to 5 .. cause an IllegalArgumentException." */
    private static void refusalsOfKeptPlaces() {
        refusedAll("askKept", IAE, NO_PLACES, WordFinder::askKept);
        refusedAll("keep", IAE, NO_PLACES, WordFinder::keep);
        refusedAll("keepNot", IAE, NO_PLACES, (x, place) -> x.keepNot(place, 0));
        refusedAll("keepNot, the other", IAE, NO_PLACES, (x, place) -> x.keepNot(0, place));
        refusedAll("drop", IAE, NO_PLACES, (x, place) -> x.drop(place));
        refusedAll("parts", IAE, NO_PLACES, WordFinder::parts);
        refusedAll("partFound", IAE, NO_PLACES, (x, place) -> x.partFound(place, 0));
        refusedAll("write", IAE, NO_PLACES, WordFinder::write);
        refusedAll("compare", IAE, NO_PLACES, (x, place) -> x.compare(place, 3));
        refusedAll("compare, the other", IAE, NO_PLACES, (x, place) -> x.compare(3, place));
    }

    /** "If no query is kept there": at 1 and 5 of Twins.busy(). */
    private static void refusalsOfKeptQueries() {
        int[] empty = {1, 5};
        refusedAll("askKept", NSEE, empty, WordFinder::askKept);
        refusedAll("keepNot", NSEE, empty, (x, place) -> x.keepNot(0, place));
        refusedAll("keepNot in place of itself", NSEE, empty, (x, place) -> x.keepNot(place, place));
        refusedAll("parts", NSEE, empty, WordFinder::parts);
        refusedAll("partFound", NSEE, empty, (x, place) -> x.partFound(place, 0));
        refusedAll("write", NSEE, empty, WordFinder::write);
        refusedAll("compare", NSEE, empty, (x, place) -> x.compare(place, 3));
        refusedAll("compare, the other", NSEE, empty, (x, place) -> x.compare(3, place));
        refusedAll("compare itself", NSEE, empty, (x, place) -> x.compare(place, place));
    }

    /** "If there is no such word", event, part or sign: -1, and one behind the last one. */
    private static void refusalsOfIndexes() {
        WordFinder x = Twins.busy();
        int words = x.words();
        int events = x.events();
        int parts = x.parts(0);
        int signs = x.write(4);
        refusedAll("indexWord", IOOBE, new int[] {MIN, -1, words, words + 1, MAX}, WordFinder::indexWord);
        refusedAll("frequent", IOOBE, new int[] {MIN, -1, words, words + 1, MAX}, WordFinder::frequent);
        refusedAll("eventOf", IOOBE, new int[] {MIN, -1, events, events + 1, 99, 100, MAX}, (y, i) -> y.eventOf(i, 0));
        refusedAll("what of eventOf", IAE, new int[] {MIN, -1, 3, 4, MAX}, (y, what) -> y.eventOf(0, what));
        refusedAll("partFound", IOOBE, new int[] {MIN, -1, parts, parts + 1, 19, 20, MAX}, (y, i) -> y.partFound(0, i));
        refusedAll("writtenAt", IOOBE, new int[] {MIN, -1, signs, signs + 1, MAX}, (y, i) -> (int) y.writtenAt(i));
        due("the last word", x.lastWord(), () -> x.indexWord(words - 1));
        due("the last rank", true, () -> x.frequent(words - 1) > 0);
        due("the last event", true, () -> x.eventOf(events - 1, 2) >= 0);
        due("the last part", true, () -> x.partFound(0, parts - 1) >= 0);
        due("the last sign", ')', () -> x.writtenAt(signs - 1));
        Twins.refused("event 100 of a hundred", IOOBE, Twins::loud, y -> y.eventOf(100, 0));
        due("event 99 of a hundred", 5, () -> Twins.loud().eventOf(99, 0));
    }

    /** What a new object refuses. */
    private static void refusalsOfNothing() {
        Supplier<WordFinder> none = WordFinder::new;
        Twins.refused("firstWord of none", NSEE, none, WordFinder::firstWord);
        Twins.refused("lastWord of none", NSEE, none, WordFinder::lastWord);
        Twins.refused("indexWord of none", IOOBE, none, x -> x.indexWord(0));
        Twins.refused("frequent of none", IOOBE, none, x -> x.frequent(0));
        Twins.refused("writtenAt of nothing", IOOBE, none, x -> (int) x.writtenAt(0));
        Twins.refused("eventOf none", IOOBE, none, x -> x.eventOf(0, 0));
        Twins.refused("askKept of none", NSEE, none, x -> x.askKept(0));
        Twins.refused("keepNot of none", NSEE, none, x -> x.keepNot(0, 0));
        Twins.refused("compare of none", NSEE, none, x -> x.compare(0, 0));
        Twins.refused("removeText of none", IOOBE, none, x -> x.removeText(0));
        Twins.refused("nearest of none", IOOBE, none, x -> x.nearest(0));
        Twins.answered("undo of nothing", -1, none, WordFinder::undo);
        Twins.answered("drop of none", false, none, x -> x.drop(0));
        Twins.refused("firstWord of empty texts", NSEE, () -> Checks.with("", ""), WordFinder::firstWord);
        Twins.refused("lastWord of empty texts", NSEE, () -> Checks.with("", ""), WordFinder::lastWord);
    }

    /** "If one has another simple part than a WORD, or there are more than 10 unlike words": what was found stays. */
    private static void refusalsOfComparing() {
        for (String other : List.of("a*", "a~1b", "[a]", "d|e|f|g|h|i|j|k|l|m|n", "d|e|f|g|h|i|j|k", "x|!(y&z*)")) {
            Supplier<WordFinder> past = () -> {
                WordFinder x = Twins.busy();
                Checks.keep(x, 3, "a|b|c");
                Checks.keep(x, 4, "b|c");
                x.compare(4, 3);
                Checks.keep(x, 0, other);
                return x;
            };
            Twins.refused("compare with " + other, ISE, past, x -> x.compare(3, 0));
            Twins.refused("compare ahead of it with " + other, ISE, past, x -> x.compare(0, 3));
            due("what was found stays", A, () -> {
                WordFinder x = past.get();
                Checks.outcome(() -> x.compare(3, 0));
                return x.differAt(0);
            });
        }
    }

    private static WordFinder busyWith(String tape) {
        WordFinder x = Twins.busy();
        x.clearTape();
        Checks.feed(x, tape);
        return x;
    }

    /** "A call that reads the tape empties it and sets the error position", and changes nothing else. */
    private static void refusedReadings() {
        Twins.misread("addText", 3, () -> busyWith("ok toolong"), WordFinder::addText);
        Twins.misread("addText of 41", 80, () -> busyWith(Checks.repeat("a ", 41)), WordFinder::addText);
        for (int text : new int[] {0, 2, 3, 4}) {
            Twins.misread("replaceText " + text, 3, () -> busyWith("ok toolong"), x -> x.replaceText(text));
        }
        for (String query : List.of("", "cat&", "(cat", "cat)", "#", "cat dog", "cat~0dog", "abcdefg")) {
            int error = query.equals("cat)") ? 3 : query.equals("cat dog") || query.equals("cat~0dog") ? 4
                : query.equals("abcdefg") || query.equals("#") ? 0 : query.length();
            Twins.misread("ask " + query, error, () -> busyWith(query), WordFinder::ask);
            for (int i = 0; i < 6; i++) {
                int place = i;
                Twins.misread("keep " + query + " at " + i, error, () -> busyWith(query), x -> x.keep(place));
            }
        }
        Twins.misread("replaceText in a hundred", 1, Twins::full, x -> x.replaceText(99));
        Twins.misread("ask in a hundred", 1, Twins::full, WordFinder::ask);
        Twins.misread("replaceText of forty words", 0, () -> {
            WordFinder x = Twins.loud();
            x.clearTape();
            Checks.feed(x, "toolong");
            return x;
        }, x -> x.replaceText(0));
    }

    /** "If several exceptions apply to a call, the one that is listed first is thrown"; what is listed ahead reads nothing. */
    private static void firstOfSeveralExceptions() {
        Twins.refused("addText: full, then wrong", ISE, Twins::full, WordFinder::addText);
        Supplier<WordFinder> wrong = () -> busyWith("toolong#");
        Twins.refused("replaceText: no text, then wrong", IOOBE, wrong, x -> x.replaceText(1));
        Twins.refused("keep: no place, then wrong", IAE, wrong, x -> x.keep(6));
        Twins.refused("keep: no place below, then wrong", IAE, wrong, x -> x.keep(-1));
        refused("putWord: no text, no word", IOOBE, x -> x.putWord(1, 0, 0));
        refused("putWord: no place, no word", IOOBE, x -> x.putWord(0, 4, 0));
        Twins.refused("putWord: no text, forty words", IOOBE, Twins::loud, x -> x.putWord(1, 0, CAT));
        Twins.refused("putWord: no place, forty words", IOOBE, Twins::loud, x -> x.putWord(0, 41, CAT));
        Twins.refused("putWord: no place, no word, forty words", IOOBE, Twins::loud, x -> x.putWord(0, 41, 0));
        Twins.refused("putWord: no word, forty words", IAE, Twins::loud, x -> x.putWord(0, 40, 0));
        refused("setWord: no text, no word", IOOBE, x -> x.setWord(1, 0, 0));
        refused("setWord: no place, no word", IOOBE, x -> x.setWord(0, 3, 0));
        refused("isIn: no word, no text", IAE, x -> x.isIn(0, -1));
        refused("nextWith: no word, no text", IAE, x -> x.nextWith(0, -1));
        refused("placeIn: no word, no text", IAE, x -> x.placeIn(0, 1, 0));
        refused("placeIn: no text, no index", IOOBE, x -> x.placeIn(CAT, 1, -1));
        refused("keepNot: no place, none at other", IAE, x -> x.keepNot(6, 1));
        refused("keepNot: none at place, no other", IAE, x -> x.keepNot(1, 6));
        refused("partFound: no place, no part", IAE, x -> x.partFound(6, 99));
        refused("partFound: none kept, no part", NSEE, x -> x.partFound(1, 99));
        refused("eventOf: no event, no such figure", IOOBE, x -> x.eventOf(99, 3));
        refused("compare: no place, none at other", IAE, x -> x.compare(6, 1));
        refused("compare: none at place, no other", IAE, x -> x.compare(1, 6));
        refused("compare: none at place, another part at other", NSEE, x -> x.compare(1, 0));
        refused("compare: another part at place, none at other", NSEE, x -> x.compare(0, 5));
        refused("compare: another part at place, no other", IAE, x -> x.compare(0, 6));
        refused("share: no word, though there are no such texts", IAE, x -> x.share(0));
        Twins.refused("share: no word, without texts", IAE, WordFinder::new, x -> x.share(0));
    }

    /** Where a call tells NONE, 0 or false instead of throwing: nothing is different then. */
    private static void nothingToTell() {
        for (int none : new int[] {MIN, -1, 100, MAX}) {
            Twins.answered("foundAt " + none, -1, Twins::busy, x -> x.foundAt(none));
            Twins.answered("rankAt " + none, -1, Twins::busy, x -> x.rankAt(none));
            Twins.answered("scoreAt " + none, -1, Twins::busy, x -> x.scoreAt(none));
            Twins.answered("differAt " + none, -1, Twins::busy, x -> x.differAt(none));
            Twins.answered("placeIn " + none, -1, Twins::busy, x -> x.placeIn(CAT, 0, none));
            Twins.answered("neighbourAt " + none, -1, Twins::busy, x -> x.neighbourAt(CAT, none));
        }
        Twins.answered("nextText behind all", -1, Twins::busy, x -> x.nextText(5));
        Twins.answered("nextWith behind all", -1, Twins::busy, x -> x.nextWith(CAT, 4));
        Twins.answered("beside the last", -1, Twins::busy, x -> x.beside(ZZZZZZ, true));
        Twins.answered("beside the first", -1, Twins::busy, x -> x.beside(A, false));
        Twins.answered("companion of none", -1, Twins::busy, x -> x.companion(DOG));
        Twins.answered("drop of none", false, Twins::busy, x -> x.drop(5));
        Twins.answered("isIn a text that is not there", false, Twins::busy, x -> x.isIn(CAT, 1));
        Twins.answered("isIn a far text", false, Twins::busy, x -> x.isIn(CAT, MAX));
    }

    /** Calls that only tell change nothing. */
    private static void readingCallsChangeNothing() {
        Twins.answered("texts", 4, Twins::busy, WordFinder::texts);
        Twins.answered("undoable", 8, Twins::busy, WordFinder::undoable);
        Twins.answered("length", 3, Twins::busy, x -> x.length(0));
        Twins.answered("letterAt", 't', Twins::busy, x -> x.letterAt(0, 0, 2));
        Twins.answered("between", 4, Twins::busy, x -> x.between(A, Checks.word("fish")));
        Twins.answered("beginning", 2, Twins::busy, x -> x.beginning(CAT));
        Twins.answered("frequent", CAT, Twins::busy, x -> x.frequent(1));
        Twins.answered("together", 2, Twins::busy, x -> x.together(CAT, Checks.word("bird")));
        Twins.answered("companion", Checks.word("bird"), Twins::busy, x -> x.companion(CAT));
        Twins.answered("neighbours", 1, Twins::busy, x -> x.neighbours(CAT));
        Twins.answered("parts", 3, Twins::busy, x -> x.parts(0));
        Twins.answered("partFound", 1, Twins::busy, x -> x.partFound(0, 2));
        Twins.answered("unlike", 2, Twins::busy, x -> x.unlike(0));
        Twins.answered("common", 2, Twins::busy, x -> x.common(0, 3));
        Twins.answered("nearest", 3, Twins::busy, x -> x.nearest(0));
        Twins.answered("meanLength", 9.0 / 4.0, Twins::busy, WordFinder::meanLength);
        Twins.answered("share", 0.5f, Twins::busy, x -> x.share(CAT));
        Twins.answered("errors", 0, Twins::busy, WordFinder::errors);
        Twins.answered("errors of a hundred", 0, Twins::full, WordFinder::errors);
        Twins.answered("errors behind many changes", 0, Twins::loud, WordFinder::errors);
    }

    // ---- Promises 5 to 14.

    /** "Returns the number of words that it had before", from none to forty. */
    private static void addAndReplace() {
        WordFinder x = Checks.with("");
        String[] texts = {Checks.repeat("a ", 40).trim(), "", "cat", "cat", ""};
        int[] had = {0, 40, 0, 1, 1};
        for (int i = 0; i < texts.length; i++) {
            Checks.feed(x, texts[i]);
            int want = had[i];
            String text = texts[i];
            due("had", want, () -> x.replaceText(0));
            due("has", text, () -> Checks.text(x, 0));
            due("tape", 0, x::clearTape);
        }
        due("no words left", 0, x::words);
        due("had none", 0, () -> x.removeText(0));
        due("had forty", 40, () -> Checks.with(Checks.repeat("a ", 40)).removeText(0));
        due("the number is free", 0, x::addText);
    }

    /** "0 to the number of its words": each place of texts of 0, 1, 2 and 39 words. */
    private static void putTakeSet() {
        for (int size : new int[] {0, 1, 2, 39}) {
            for (int i = 0; i <= size; i++) {
                int place = i;
                WordFinder x = Checks.with(Checks.repeat("b ", size));
                due("put at " + i, size + 1, () -> x.putWord(0, place, A));
                due("it is there", place, () -> x.placeIn(A, 0, 0));
                due("once", 1, () -> x.places(A));
                due("set to another", A, () -> x.setWord(0, place, CAT));
                due("that is there", place, () -> x.placeIn(CAT, 0, 0));
                due("and taken", CAT, () -> x.takeWord(0, place));
                due("as it was", Checks.repeat("b ", size).trim(), () -> Checks.text(x, 0));
                due("one more is not there", IOOBE, () -> x.takeWord(0, size));
            }
        }
    }

    /** "The least number of a text that is not less than a number", which is "any number". */
    private static void nextText() {
        WordFinder x = Twins.full();
        for (int text : new int[] {0, 1, 2, 63, 64, 98}) {
            x.removeText(text);
        }
        int[][] pairs = {{MIN, 3}, {-1, 3}, {0, 3}, {3, 3}, {4, 4}, {62, 62}, {63, 65}, {64, 65}, {65, 65}, {97, 97},
            {98, 99}, {99, 99}, {100, -1}, {101, -1}, {127, -1}, {163, -1}, {MAX, -1}};
        for (int[] pair : pairs) {
            due("next text from " + pair[0], pair[1], () -> x.nextText(pair[0]));
        }
        due("texts", 94, x::texts);
        x.removeText(99);
        due("behind the last", 97, () -> x.nextText(97));
        due("none there", -1, () -> x.nextText(98));
        due("none at all", -1, () -> new WordFinder().nextText(MIN));
    }

    /** Promises 15 to 17 and 29, on a text of forty words of 1 to 6 letters. */
    private static void places() {
        String all = "abcdef";
        StringBuilder text = new StringBuilder();
        for (int i = 0; i < 40; i++) {
            text.append(all, 0, 1 + i % 6).append(' ');
        }
        WordFinder x = Checks.with(text.toString().trim());
        due("forty", 40, () -> x.length(0));
        for (int i = 0; i < 40; i++) {
            int place = i;
            int letters = 1 + i % 6;
            int word = Checks.word(all.substring(0, letters));
            due("word at " + i, word, () -> x.wordAt(0, place));
            due("last letter at " + i, all.charAt(letters - 1), () -> x.letterAt(0, place, letters - 1));
            due("no more letters at " + i, IOOBE, () -> x.letterAt(0, place, letters));
            due("place " + i / 6 + " of it", place, () -> x.placeIn(word, 0, place / 6));
        }
        due("the last place of a", 36, () -> x.placeIn(A, 0, 6));
        due("no more places of a", -1, () -> x.placeIn(A, 0, 7));
        due("no place below", -1, () -> x.placeIn(A, 0, -1));
        due("no place of another word", -1, () -> x.placeIn(CAT, 0, 0));
        due("no place 40", IOOBE, () -> x.wordAt(0, 40));
        due("no letter below", IOOBE, () -> x.letterAt(0, 0, -1));
    }

    // ---- Promises 18 to 34.

    /** Promises 18 to 24 and 30 on one word and on two, one of which begins with the other. */
    private static void index() {
        WordFinder x = Checks.with("ab");
        int ab = Checks.word("ab");
        due("first and last", ab + " " + ab, () -> x.firstWord() + " " + x.lastWord());
        due("the only one", ab + " " + ab, () -> x.indexWord(0) + " " + x.frequent(0));
        due("none beside it", "-1 -1", () -> x.beside(ab, true) + " " + x.beside(ab, false));
        due("beside others", ab + " " + ab, () -> x.beside(A, true) + " " + x.beside(Checks.word("aba"), false));
        due("beside others on the other side", "-1 -1", () -> x.beside(A, false) + " " + x.beside(Checks.word("aba"), true));
        due("between itself", 0, () -> x.between(ab, ab));
        due("from it on", 1, () -> x.between(ab, Checks.word("aba")));
        due("up to it", 0, () -> x.between(Checks.word("aazzzz"), ab));
        due("begins with itself", 1, () -> x.beginning(ab));
        due("begins with one letter", 1, () -> x.beginning(A));
        due("is the beginning", 0, () -> x.beginning(Checks.word("aba")));
        due("another letter", 0, () -> x.beginning(Checks.word("b")));
        x.putWord(0, 0, Checks.word("aba"));
        due("ahead of the longer one", ab, x::firstWord);
        due("from it on, up to the longer one", 1, () -> x.between(ab, Checks.word("aba")));
        due("both begin so", 2, () -> x.beginning(ab));
        due("one begins so", 1, () -> x.beginning(Checks.word("aba")));
        due("of as many texts", ab + " " + Checks.word("aba"), () -> x.frequent(0) + " " + x.frequent(1));
        Checks.feed(x, "aba");
        x.addText();
        due("of more texts", Checks.word("aba") + " " + ab, () -> x.frequent(0) + " " + x.frequent(1));
        x.putWord(0, 0, ab);
        x.putWord(0, 0, ab);
        due("places do not count", Checks.word("aba"), () -> x.frequent(0));
        due("together", "1 1 2", () -> x.together(ab, Checks.word("aba")) + " " + x.together(ab, ab) + " "
            + x.together(Checks.word("aba"), Checks.word("aba")));
        due("not together", 0, () -> x.together(ab, A));
    }

    /** "The least text with a word that is not less than a number", and of the first and the last number. */
    private static void nextWith() {
        WordFinder x = Checks.with("cat", "", "cat", "dog");
        int[][] pairs = {{0, 0}, {1, 2}, {2, 2}, {3, -1}, {4, -1}, {99, -1}, {100, -1}, {MAX, -1}};
        for (int[] pair : pairs) {
            due("next with cat from " + pair[0], pair[1], () -> x.nextWith(CAT, pair[0]));
            due("is in " + pair[0], pair[0] == pair[1], () -> x.isIn(CAT, pair[0]));
            due("next with none from " + pair[0], -1, () -> x.nextWith(ZZZZZZ, pair[0]));
        }
        x.removeText(2);
        due("not in a removed one", false, () -> x.isIn(CAT, 2));
        due("none behind", -1, () -> x.nextWith(CAT, 1));
    }

    // ---- Promises 35 to 50.

    /** "By the latest ask() or askKept() that threw no exception. (What was found does not change with the texts.)" */
    private static void foundOfTheLatest() {
        WordFinder x = Checks.with("cat", "dog dog", "cat dog");
        Checks.ask(x, "dog");
        for (int i = 0; i < 7; i++) {
            int kind = i;
            Checks.outcome(() -> switch (kind) {
                case 0 -> x.removeText(1);
                case 1 -> x.setWord(2, 1, CAT);
                case 2 -> Checks.keep(x, 0, "cat");
                case 3 -> Checks.ask(x, "dog&");
                case 4 -> x.askKept(1);
                case 5 -> x.askKept(6);
                default -> x.undo();
            });
            due("found behind " + i, "1 2 -1", () -> x.foundAt(0) + " " + x.foundAt(1) + " " + x.foundAt(2));
            due("ranks behind " + i, "1 2 -1", () -> x.rankAt(0) + " " + x.rankAt(1) + " " + x.rankAt(2));
            due("scores behind " + i, "2 1 -1", () -> x.scoreAt(0) + " " + x.scoreAt(1) + " " + x.scoreAt(2));
        }
        due("the latest is askKept", 2, () -> x.askKept(0));
        due("its found", "0 2 -1", () -> x.foundAt(0) + " " + x.foundAt(1) + " " + x.foundAt(2));
        due("nothing found", 0, () -> Checks.ask(x, "zebra"));
        due("none of it", "-1 -1 -1", () -> x.foundAt(0) + " " + x.rankAt(0) + " " + x.scoreAt(0));
    }

    /** "In place of one that is kept there. This makes no events." */
    private static void keep() {
        WordFinder x = Checks.with("cat", "dog", "cat dog");
        for (int place : new int[] {0, 5}) {
            due("found by one", 2, () -> Checks.keep(x, place, "cat"));
            due("found by another", 3, () -> Checks.keep(x, place, "cat|dog"));
            due("found by none", 0, () -> Checks.keep(x, place, "zebra"));
            due("in place of it", "zebra", () -> Checks.written(x, place));
            due("no events", 0, x::events);
        }
        WordFinder full = Twins.full();
        full.clearTape();
        due("one of a hundred", 1, () -> Checks.keep(full, 0, "cat"));
        due("all others", 99, () -> full.keepNot(0, 0));
        due("a hundred", 100, () -> Checks.keep(full, 0, "cat|!cat"));
        due("none in place of a hundred", 0, () -> Checks.keep(full, 0, "zebra"));
        due("no errors", 0, full::errors);
    }

    /** "0 to 5, perhaps the same", and "this makes no events". */
    private static void keepNot() {
        for (int place = 0; place < 6; place++) {
            int from = place;
            WordFinder x = Checks.with("cat", "dog", "");
            Checks.keep(x, from, "cat");
            due("the same place", 2, () -> x.keepNot(from, from));
            due("the negation", "!cat", () -> Checks.written(x, from));
            due("to another place", 1, () -> x.keepNot(5 - from, from));
            due("the other is negated", "cat", () -> Checks.written(x, 5 - from));
            due("the first one stays", "!cat", () -> Checks.written(x, from));
            due("no events", 0, x::events);
            x.takeWord(0, 0);
            due("both tell then", 2, x::events);
        }
        for (String query : List.of("!!!!!!!!a", "!!!!!!!a", "a|b&(c|!d)", "((((((((a|b)&c)|d)&a)|b)&c)|d)&a)")) {
            negatedOften(query);
        }
    }

    /** A kept query does not grow by being negated again and again. */
    private static void negatedOften(String query) {
        WordFinder x = Checks.with("a", "b", "c d", "");
        Checks.keep(x, 3, query);
        int found = x.askKept(3);
        // Each negation takes one of these eight, so behind ten of them any query goes to and fro.
        for (int i = 0; i < 10; i++) {
            x.keepNot(3, 3);
        }
        String written = Checks.written(x, 3);
        for (int i = 0; i < 390; i++) {
            x.keepNot(3, 3);
        }
        due("400 times negated " + query, written, () -> Checks.written(x, 3));
        due("finds as many", found, () -> x.askKept(3));
        due("finds the others", 4 - found, () -> x.keepNot(3, 3));
        due("no errors", 0, x::errors);
    }

    /** "Returns true if one was kept there", at each place. */
    private static void drop() {
        for (int i = 0; i < 6; i++) {
            int place = i;
            WordFinder x = Checks.with("cat");
            due("none yet", false, () -> x.drop(place));
            Checks.keep(x, place, "cat");
            due("one", true, () -> x.drop(place));
            due("no more", false, () -> x.drop(place));
            x.removeText(0);
            due("it tells nothing", 0, x::events);
            due("it is not there", NSEE, () -> x.keepNot(place, place));
        }
    }

    /** "Number of a simple part, from 0, as they stand in the query": from one part to twenty. */
    private static void parts() {
        WordFinder x = Checks.with("a a", "a b", "ab", "");
        StringBuilder query = new StringBuilder("a");
        for (int parts = 1; parts <= 20; parts++) {
            int count = parts;
            Checks.keep(x, 5, query.toString());
            due("parts", count, () -> x.parts(5));
            due("the first", 2, () -> x.partFound(5, 0));
            due("the last", count == 1 ? 2 : count % 2 == 0 ? 3 : 1, () -> x.partFound(5, count - 1));
            due("none behind", IOOBE, () -> x.partFound(5, count));
            query.append(parts % 2 == 1 ? "&!a*" : "|b");
        }
        Checks.keep(x, 0, "[a b]|b~1a&!zebra");
        due("a row", 1, () -> x.partFound(0, 0));
        due("near", 1, () -> x.partFound(0, 1));
        due("none, though under !", 0, () -> x.partFound(0, 2));
        x.takeWord(1, 0);
        due("of now", 0, () -> x.partFound(0, 0));
    }

    /** "In place of what was written before", and "if there is no such sign". */
    private static void written() {
        WordFinder x = new WordFinder();
        Checks.keep(x, 0, "cat|dog");
        Checks.keep(x, 1, "b");
        due("nothing yet", IOOBE, () -> x.writtenAt(0));
        due("seven signs", 7, () -> x.write(0));
        due("the first and the last", "cg", () -> "" + x.writtenAt(0) + x.writtenAt(6));
        due("no eighth", IOOBE, () -> x.writtenAt(7));
        due("one sign", 1, () -> x.write(1));
        due("the only one", 'b', () -> x.writtenAt(0));
        due("no second", IOOBE, () -> x.writtenAt(1));
        due("none below", IOOBE, () -> x.writtenAt(-1));
        due("refused", NSEE, () -> x.write(2));
        due("refused, too", IAE, () -> x.write(6));
        due("written last", 'b', () -> x.writtenAt(0));
        Checks.keep(x, 1, "c");
        x.drop(1);
        due("still what was written last", 'b', () -> x.writtenAt(0));
    }

    /** "0 the place of the kept query, 1 the number of the text, 2 1 if it came and 0 if it left", at their ends. */
    private static void eventOf() {
        WordFinder x = Twins.full();
        x.clearTape();
        Checks.keep(x, 0, "!cat");
        x.removeText(99);
        x.undo();
        x.takeWord(0, 0);
        x.takeWord(0, 0);
        due("events", "0/99/0 0/99/1 0/0/1 5/0/0", () -> {
            StringBuilder all = new StringBuilder();
            for (int i = 0; i < x.events(); i++) {
                all.append(i == 0 ? "" : " ").append(x.eventOf(i, 0)).append('/').append(x.eventOf(i, 1)).append('/')
                    .append(x.eventOf(i, 2));
            }
            return all.toString();
        });
        for (int i = -1; i <= 4; i++) {
            int at = i;
            due("event " + i, i >= 0 && i < 4 ? (Object) true : IOOBE, () -> x.eventOf(at, 0) >= 0);
            due("figure " + i, i >= 0 && i < 3 ? (Object) true : IAE, () -> x.eventOf(3, at) >= 0);
        }
    }

    /** "A word of the least text that the latest compare() found that threw no exception." */
    private static void differAt() {
        WordFinder x = new WordFinder();
        Checks.keep(x, 0, "b&a&c");
        Checks.keep(x, 1, "b&a");
        Checks.keep(x, 2, "!b");
        Checks.keep(x, 3, "b*");
        due("two words", 2, () -> x.compare(0, 1));
        for (int refused = 3; refused < 7; refused++) {
            int other = refused;
            Checks.outcome(() -> x.compare(0, other));
            due("first", 1, () -> x.differAt(0));
            due("second", 2, () -> x.differAt(1));
            due("no third", -1, () -> x.differAt(2));
            due("none below", -1, () -> x.differAt(-1));
        }
        Checks.keep(x, 0, "q");
        x.drop(1);
        due("stays with other queries", 2, () -> x.differAt(1));
        due("no words", 0, () -> x.compare(2, 0));
        due("none of them", -1, () -> x.differAt(0));
        due("one word", 1, () -> {
            Checks.keep(x, 4, "b");
            return x.compare(4, 0);
        });
        due("that one", 2, () -> x.differAt(0));
        due("no such text", -1, () -> x.compare(0, 0));
        due("and none of it", -1, () -> x.differAt(0));
    }

    // ---- Promises 51 to 56.

    /** "0.0 without texts", "0.0f without texts", and what has no end in binary digits. */
    private static void figures() {
        WordFinder x = new WordFinder();
        due("mean without texts", 0.0, x::meanLength);
        due("share without texts", 0.0f, () -> x.share(CAT));
        x.addText();
        due("mean without words", 0.0, x::meanLength);
        due("share without words", 0.0f, () -> x.share(CAT));
        x.putWord(0, 0, CAT);
        due("mean of one", 1.0, x::meanLength);
        due("share of all", 1.0f, () -> x.share(CAT));
        x.addText();
        x.addText();
        due("a third", 1.0 / 3.0, x::meanLength);
        due("a third of the texts", 1.0f / 3.0f, () -> x.share(CAT));
        due("none has it", 0.0f, () -> x.share(DOG));
        x.removeText(0);
        due("mean of those that are there", 0.0, x::meanLength);
        due("share of those that are there", 0.0f, () -> x.share(CAT));
        x.removeText(1);
        x.removeText(2);
        due("mean behind the last", 0.0, x::meanLength);
        due("share behind the last", 0.0f, () -> x.share(CAT));
        WordFinder y = Twins.full();
        y.putWord(0, 0, ZZZZZZ);
        due("mean of a hundred", 3.0 / 100.0, y::meanLength);
        due("share of a hundred", 1.0f / 100.0f, () -> y.share(ZZZZZZ));
    }
}
