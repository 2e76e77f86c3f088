import static java.util.Map.entry;

import java.util.List;
import java.util.Map;

/** Promise by promise: ordinary inputs, the edges that the document names, and wrong inputs. */
public final class PromisesTest {
    private static final String ISE = "throws IllegalStateException";
    private static final String IAE = "throws IllegalArgumentException";
    private static final String IOOBE = "throws IndexOutOfBoundsException";
    private static final String NSEE = "throws NoSuchElementException";

    /** Numbers of no word: nothing, a 0 among the letters, more than six letters. */
    private static final int[] NO_WORDS = {0, -1, 27, 27 * 28, 729, 387420489, Integer.MAX_VALUE, Integer.MIN_VALUE,
        27 * 27 * 27 + 5, 26 * 27};

    private static final int CAT = Checks.word("cat");
    private static final int DOG = Checks.word("dog");
    private static final int BIRD = Checks.word("bird");
    private static final int ZZZZZZ = Checks.word("zzzzzz");

    public static void main(String[] args) {
        newObject();
        append();
        clearTape();
        errorPosition();
        addText();
        replaceText();
        removeText();
        putWord();
        takeWord();
        setWord();
        undo();
        undoable();
        textsAndNextText();
        lengthWordAtLetterAt();
        wordsIndexWordFirstLast();
        beside();
        between();
        beginning();
        textsWithIsInNextWith();
        placesPlaceIn();
        frequent();
        together();
        companion();
        neighbours();
        grammar();
        tokens();
        limitsOfQueries();
        meaning();
        askAndFound();
        ranks();
        askKept();
        keep();
        keepNot();
        drop();
        partsPartFound();
        write();
        events();
        compare();
        unlikeCommon();
        nearest();
        figures();
        errors();
        Checks.end("PromisesTest");
    }

    private static void due(String what, Object want, Checks.Call call) {
        Checks.due(what, want, call);
    }

    /** No wrong number of a word is taken by a call that asks for one. */
    private static void refusesNoWords(String what, java.util.function.IntFunction<Object> call) {
        for (int number : NO_WORDS) {
            due(what + " with " + number, IAE, () -> call.apply(number));
        }
    }

    private static void refusesPlaces(String what, java.util.function.IntFunction<Object> call) {
        for (int place : new int[] {-1, 6, Integer.MIN_VALUE, Integer.MAX_VALUE}) {
            due(what + " with " + place, IAE, () -> call.apply(place));
        }
    }

    private static void refusesTexts(String what, java.util.function.IntFunction<Object> call) {
        for (int text : new int[] {-1, 99, 100, Integer.MIN_VALUE, Integer.MAX_VALUE}) {
            due(what + " with " + text, IOOBE, () -> call.apply(text));
        }
    }

    /** Promise 1. */
    private static void newObject() {
        WordFinder x = new WordFinder();
        due("1 NONE", -1, () -> WordFinder.NONE);
        due("1 clearTape", 0, x::clearTape);
        due("1 texts", 0, x::texts);
        due("1 words", 0, x::words);
        due("1 events", 0, x::events);
        due("1 undoable", 0, x::undoable);
        due("1 errorPosition", -1, x::errorPosition);
        due("1 foundAt", -1, () -> x.foundAt(0));
        due("1 rankAt", -1, () -> x.rankAt(0));
        due("1 scoreAt", -1, () -> x.scoreAt(0));
        due("1 differAt", -1, () -> x.differAt(0));
        due("1 writtenAt", IOOBE, () -> x.writtenAt(0));
        for (int i = 0; i < 6; i++) {
            int place = i;
            due("1 parts", NSEE, () -> x.parts(place));
        }
    }

    /** Promise 2. */
    private static void append() {
        WordFinder x = new WordFinder();
        due("2 all zero", 0, () -> x.append(0, 0, 0, 0, 0));
        due("2 most significant first", 5, () -> x.append(0x61620063, 0, 0x00200000, 0, 0x64));
        due("2 adds", 0, x::addText);
        due("2 order", "abc d", () -> Checks.text(x, 0));
        due("2 sign bit", 20, () -> x.append(-1, -1, -1, Integer.MIN_VALUE | 0x7f7f7f, -1));
        for (int i = 2; i <= 15; i++) {
            int want = 20 * i;
            due("2 up to 300", want, () -> x.append(-1, -1, -1, -1, -1));
        }
        due("2 too many", ISE, () -> x.append(0, 0, 0, 0, 1));
        due("2 zeros do not count", 300, () -> x.append(0, 0, 0, 0, 0));
        due("2 kept 300", 300, x::clearTape);
        Checks.feed(x, Checks.repeat(" ", 299));
        due("2 both refused", ISE, () -> x.append(0x6161, 0, 0, 0, 0));
        due("2 nothing was appended", 300, () -> x.append(0x61, 0, 0, 0, 0));
        x.clearTape();
        Checks.feed(x, Checks.repeat(" ", 298));
        int[][] threes = {{0x616161, 0, 0, 0, 0}, {0, 0x616161, 0, 0, 0}, {0, 0, 0x616161, 0, 0}, {0, 0, 0, 0x616161, 0},
            {0, 0, 0, 0, 0x616161}, {0x61, 0, 0x61, 0, 0x61}, {0, 0x61000000, 0, 0x6161, 0}};
        for (int[] three : threes) {
            due("2 three in " + java.util.Arrays.toString(three), ISE,
                () -> x.append(three[0], three[1], three[2], three[3], three[4]));
        }
        due("2 two", 300, () -> x.append(0, 0x61, 0, 0x61000000, 0));
    }

    /** Promise 3. */
    private static void clearTape() {
        WordFinder x = Checks.with();
        Checks.feed(x, "cat");
        due("3 count", 3, x::clearTape);
        due("3 empty", 0, x::clearTape);
        due("3 add", 0, x::addText);
        due("3 nothing on it", 0, () -> x.length(0));
        Checks.feed(x, "toolong");
        due("3 error", IAE, x::addText);
        Checks.feed(x, "b");
        x.clearTape();
        due("3 reads nothing", 0, x::errorPosition);
    }

    /** Promise 4. */
    private static void errorPosition() {
        WordFinder x = Checks.with("cat");
        due("4 none after success", -1, x::errorPosition);
        Checks.feed(x, " a-toolong");
        due("4 text", IAE, x::addText);
        due("4 at its first byte", 3, x::errorPosition);
        Checks.feed(x, "(cat");
        due("4 not read", IAE, () -> x.keep(6));
        due("4 stays", 3, x::errorPosition);
        due("4 not read either", IOOBE, () -> x.replaceText(5));
        due("4 stays still", 3, x::errorPosition);
        due("4 tape stays", 4, x::clearTape);
        due("4 query", IAE, () -> Checks.ask(x, "(cat"));
        due("4 at its end", 4, x::errorPosition);
        due("4 ask", 1, () -> Checks.ask(x, "cat"));
        due("4 none again", -1, x::errorPosition);
        due("4 keep", IAE, () -> Checks.keep(x, 0, "cat|"));
        due("4 of keep", 4, x::errorPosition);
        Checks.feed(x, "dog");
        due("4 replace", 1, () -> x.replaceText(0));
        due("4 none after replace", -1, x::errorPosition);
        due("4 replace wrongly", IAE, () -> {
            Checks.feed(x, "a abcdefg");
            return x.replaceText(0);
        });
        due("4 of replace", 2, x::errorPosition);
        due("4 text stays", "dog", () -> Checks.text(x, 0));
        due("4 tape is empty", 0, x::clearTape);
    }

    /** Promise 5. */
    private static void addText() {
        WordFinder x = Checks.with("Cat dog CAT", "", "one\n2two,three" + (char) 255 + "`{@[z AZaz");
        due("5 small letters", "cat dog cat", () -> Checks.text(x, 0));
        due("5 empty", "", () -> Checks.text(x, 1));
        due("5 others separate", "one two three z azaz", () -> Checks.text(x, 2));
        x.removeText(1);
        Checks.feed(x, "abcdef zzzzzz a");
        due("5 least free number", 1, x::addText);
        due("5 six letters", "abcdef zzzzzz a", () -> Checks.text(x, 1));
        Checks.feed(x, "abcdefg");
        due("5 seven letters", IAE, x::addText);
        due("5 error", 0, x::errorPosition);
        due("5 emptied", 0, x::clearTape);
        due("5 none was added", 3, x::texts);
        Checks.feed(x, Checks.repeat("a ", 40));
        due("5 forty words", 3, x::addText);
        due("5 length", 40, () -> x.length(3));
        Checks.feed(x, Checks.repeat("a ", 40) + "b");
        due("5 41 words", IAE, x::addText);
        due("5 41st", 80, x::errorPosition);
        Checks.feed(x, Checks.repeat("a ", 40) + "abcdefg");
        due("5 41st and long", IAE, x::addText);
        due("5 41st and long at", 80, x::errorPosition);
        Checks.feed(x, "x abcdefgh " + Checks.repeat("a ", 40));
        due("5 several errors", IAE, x::addText);
        due("5 the first counts", 2, x::errorPosition);

        WordFinder full = new WordFinder();
        for (int i = 0; i < 100; i++) {
            int want = i;
            due("5 number", want, full::addText);
        }
        Checks.feed(full, "toolong");
        due("5 full", ISE, full::addText);
        due("5 not read", -1, full::errorPosition);
        due("5 tape stays", 7, full::clearTape);
        full.removeText(99);
        full.removeText(17);
        due("5 17 is free", 17, full::addText);
        due("5 99 is free", 99, full::addText);
        due("5 full again", ISE, full::addText);
    }

    /** Promise 6. */
    private static void replaceText() {
        WordFinder x = Checks.with("cat dog cat", "bird");
        Checks.feed(x, "fish");
        due("6 had", 3, () -> x.replaceText(0));
        due("6 now", "fish", () -> Checks.text(x, 0));
        due("6 gone from the index", 0, () -> x.textsWith(CAT));
        due("6 in the index", 1, () -> x.textsWith(Checks.word("fish")));
        due("6 had one", 1, () -> x.replaceText(0));
        due("6 empty", 0, () -> x.length(0));
        Checks.feed(x, "toolong");
        refusesTexts("6 replaceText", x::replaceText);
        due("6 no such text, tape stays", 7, x::clearTape);
        due("6 other one stays", "bird", () -> Checks.text(x, 1));
        Checks.feed(x, "toolong");
        due("6 error", IAE, () -> x.replaceText(1));
        due("6 tape emptied", 0, x::clearTape);
        due("6 unchanged", "bird", () -> Checks.text(x, 1));
        due("6 no change", 4, x::undoable);
    }

    /** Promise 7. */
    private static void removeText() {
        WordFinder x = Checks.with("cat dog", "cat");
        refusesTexts("7 removeText", x::removeText);
        due("7 had", 2, () -> x.removeText(0));
        due("7 twice", IOOBE, () -> x.removeText(0));
        due("7 gone", IOOBE, () -> x.length(0));
        due("7 index", 1, x::words);
        due("7 other one", 1, () -> x.textsWith(CAT));
        due("7 count", 1, x::texts);
        due("7 the last one", 1, () -> x.removeText(1));
        due("7 no words", 0, x::words);
    }

    /** Promise 8. */
    private static void putWord() {
        WordFinder x = Checks.with("cat dog", "");
        due("8 ahead", 3, () -> x.putWord(0, 0, BIRD));
        due("8 behind", 4, () -> x.putWord(0, 3, BIRD));
        due("8 between", 5, () -> x.putWord(0, 2, ZZZZZZ));
        due("8 row", "bird cat zzzzzz dog bird", () -> Checks.text(x, 0));
        due("8 index", 2, () -> x.places(BIRD));
        due("8 into an empty one", 1, () -> x.putWord(1, 0, 1));
        refusesTexts("8 putWord", t -> x.putWord(t, 0, 0));
        due("8 place below", IOOBE, () -> x.putWord(0, -1, 0));
        due("8 place above", IOOBE, () -> x.putWord(0, 6, 0));
        refusesNoWords("8 putWord", w -> x.putWord(0, 0, w));
        due("8 unchanged", 5, () -> x.length(0));
        Checks.feed(x, Checks.repeat("a ", 39));
        x.addText();
        due("8 the 40th", 40, () -> x.putWord(2, 39, BIRD));
        due("8 the 41st", ISE, () -> x.putWord(2, 0, BIRD));
        due("8 first no word", IAE, () -> x.putWord(2, 40, 0));
        due("8 first no place", IOOBE, () -> x.putWord(2, 41, BIRD));
        due("8 still 40", 40, () -> x.length(2));
    }

    /** Promise 9. */
    private static void takeWord() {
        WordFinder x = Checks.with("cat dog cat");
        refusesTexts("9 takeWord", t -> x.takeWord(t, 0));
        due("9 place below", IOOBE, () -> x.takeWord(0, -1));
        due("9 place above", IOOBE, () -> x.takeWord(0, 3));
        due("9 taken", CAT, () -> x.takeWord(0, 0));
        due("9 row", "dog cat", () -> Checks.text(x, 0));
        due("9 still in the index", 1, () -> x.places(CAT));
        due("9 the last", CAT, () -> x.takeWord(0, 1));
        due("9 index", 0, () -> x.textsWith(CAT));
        due("9 dog", DOG, () -> x.takeWord(0, 0));
        due("9 empty", IOOBE, () -> x.takeWord(0, 0));
        due("9 text is there", 0, () -> x.length(0));
    }

    /** Promise 10. */
    private static void setWord() {
        WordFinder x = Checks.with("cat dog cat");
        refusesTexts("10 setWord", t -> x.setWord(t, 0, 0));
        due("10 place below", IOOBE, () -> x.setWord(0, -1, 0));
        due("10 place above", IOOBE, () -> x.setWord(0, 3, 0));
        refusesNoWords("10 setWord", w -> x.setWord(0, 0, w));
        due("10 was", CAT, () -> x.setWord(0, 0, BIRD));
        due("10 row", "bird dog cat", () -> Checks.text(x, 0));
        due("10 was dog", DOG, () -> x.setWord(0, 1, BIRD));
        due("10 index", 0, () -> x.textsWith(DOG));
        due("10 words", 2, x::words);
        due("10 the same word", BIRD, () -> x.setWord(0, 1, BIRD));
        due("10 counts as a change", 4, x::undoable);
    }

    /** Promise 11. */
    private static void undo() {
        WordFinder x = Checks.with("cat dog", "bird");
        x.removeText(0);
        due("11 removed", 0, x::undo);
        due("11 there again", "cat dog", () -> Checks.text(x, 0));
        x.putWord(0, 1, ZZZZZZ);
        x.takeWord(0, 0);
        x.setWord(0, 0, BIRD);
        Checks.feed(x, "fish");
        x.replaceText(1);
        due("11 replaced", 1, x::undo);
        due("11 row", "bird", () -> Checks.text(x, 1));
        due("11 set", 0, x::undo);
        due("11 row set", "zzzzzz dog", () -> Checks.text(x, 0));
        due("11 taken", 0, x::undo);
        due("11 row taken", "cat zzzzzz dog", () -> Checks.text(x, 0));
        due("11 put", 0, x::undo);
        due("11 row put", "cat dog", () -> Checks.text(x, 0));
        due("11 added", 1, x::undo);
        due("11 not there", IOOBE, () -> x.length(1));
        due("11 added first", 0, x::undo);
        due("11 nothing left", -1, x::undo);
        due("11 no texts", 0, x::texts);
        due("11 no words", 0, x::words);

        WordFinder old = Checks.with("a");
        for (int i = 2; i <= 25; i++) {
            old.putWord(0, i - 1, i);
        }
        for (int i = 0; i < 5; i++) {
            due("11 latest", 0, old::undo);
        }
        old.putWord(0, 0, BIRD);
        due("11 sixteen", 16, old::undoable);
        for (int i = 0; i < 16; i++) {
            due("11 down to the oldest", 0, old::undo);
        }
        due("11 older than 20", -1, old::undo);
        due("11 five words stay", "a b c d e", () -> Checks.text(old, 0));
    }

    /** Promise 12. */
    private static void undoable() {
        WordFinder x = Checks.with("a");
        due("12 one", 1, x::undoable);
        for (int i = 2; i <= 30; i++) {
            x.setWord(0, 0, 1);
            int want = Math.min(i, 20);
            due("12 up to 20", want, x::undoable);
        }
        x.undo();
        due("12 undo takes one", 19, x::undoable);
        due("12 a wrong call", IOOBE, () -> x.removeText(3));
        due("12 does not count", 19, x::undoable);
    }

    /** Promises 13 and 14. */
    private static void textsAndNextText() {
        WordFinder x = Checks.with("a", "b", "c");
        due("13 three", 3, x::texts);
        x.removeText(1);
        due("13 two", 2, x::texts);
        due("14 from below", 0, () -> x.nextText(Integer.MIN_VALUE));
        due("14 itself", 0, () -> x.nextText(0));
        due("14 over a gap", 2, () -> x.nextText(1));
        due("14 the last", 2, () -> x.nextText(2));
        due("14 none", -1, () -> x.nextText(3));
        due("14 far", -1, () -> x.nextText(Integer.MAX_VALUE));
        due("14 100", -1, () -> x.nextText(100));
        WordFinder full = new WordFinder();
        for (int i = 0; i < 100; i++) {
            full.addText();
        }
        due("13 hundred", 100, full::texts);
        due("14 99", 99, () -> full.nextText(99));
    }

    /** Promises 15 to 17. */
    private static void lengthWordAtLetterAt() {
        WordFinder x = Checks.with("cat dog abcdef", "");
        due("15 three", 3, () -> x.length(0));
        due("15 none", 0, () -> x.length(1));
        refusesTexts("15 length", x::length);
        due("16 first", 2234, () -> x.wordAt(0, 0));
        due("16 last", Checks.word("abcdef"), () -> x.wordAt(0, 2));
        due("16 below", IOOBE, () -> x.wordAt(0, -1));
        due("16 above", IOOBE, () -> x.wordAt(0, 3));
        due("16 empty", IOOBE, () -> x.wordAt(1, 0));
        refusesTexts("16 wordAt", t -> x.wordAt(t, 0));
        for (int i = 0; i < 6; i++) {
            int at = i;
            due("17 letter", "abcdef".charAt(i), () -> x.letterAt(0, 2, at));
        }
        due("17 t", 't', () -> x.letterAt(0, 0, 2));
        due("17 below", IOOBE, () -> x.letterAt(0, 0, -1));
        due("17 above", IOOBE, () -> x.letterAt(0, 0, 3));
        due("17 above six", IOOBE, () -> x.letterAt(0, 2, 6));
        due("17 place", IOOBE, () -> x.letterAt(0, 3, 0));
        due("17 place below", IOOBE, () -> x.letterAt(0, -1, 0));
        refusesTexts("17 letterAt", t -> x.letterAt(t, 0, 0));
    }

    /** Promises 18 to 21. */
    private static void wordsIndexWordFirstLast() {
        WordFinder empty = Checks.with("");
        due("18 none", 0, empty::words);
        due("19 none", IOOBE, () -> empty.indexWord(0));
        due("20 none", NSEE, empty::firstWord);
        due("21 none", NSEE, empty::lastWord);
        WordFinder x = Checks.with("b aa z", "ab a aaaaaa b", "zzzzzz za");
        List<String> order = List.of("a", "aa", "aaaaaa", "ab", "b", "z", "za", "zzzzzz");
        due("18 words", 8, x::words);
        for (int i = 0; i < 8; i++) {
            int at = i;
            due("19 order", Checks.word(order.get(i)), () -> x.indexWord(at));
        }
        due("19 above", IOOBE, () -> x.indexWord(8));
        due("19 below", IOOBE, () -> x.indexWord(-1));
        due("20 first", 1, x::firstWord);
        due("21 last", ZZZZZZ, x::lastWord);
        x.takeWord(1, 1);
        x.removeText(2);
        due("20 next one", Checks.word("aa"), x::firstWord);
        due("21 one ahead", 26, x::lastWord);
        due("18 less", 5, x::words);
    }

    /** Promise 22. */
    private static void beside() {
        WordFinder x = Checks.with("b bb d");
        int b = Checks.word("b");
        int bb = Checks.word("bb");
        int d = Checks.word("d");
        due("22 behind", bb, () -> x.beside(b, true));
        due("22 ahead", b, () -> x.beside(bb, false));
        due("22 none ahead", -1, () -> x.beside(b, false));
        due("22 none behind", -1, () -> x.beside(d, true));
        due("22 behind one not in it", b, () -> x.beside(1, true));
        due("22 ahead of one not in it", bb, () -> x.beside(3, false));
        due("22 behind one between", d, () -> x.beside(3, true));
        due("22 the dictionary, not the number", bb, () -> x.beside(Checks.word("bazzzz"), true));
        due("22 the last of all", d, () -> x.beside(ZZZZZZ, false));
        due("22 none behind the last of all", -1, () -> x.beside(ZZZZZZ, true));
        refusesNoWords("22 beside", w -> x.beside(w, true));
        refusesNoWords("22 beside ahead", w -> x.beside(w, false));
    }

    /** Promise 23. */
    private static void between() {
        WordFinder x = Checks.with("b bb d f");
        int b = Checks.word("b");
        due("23 from and up to", 2, () -> x.between(b, 4));
        due("23 the same", 0, () -> x.between(b, b));
        due("23 not in it", 4, () -> x.between(1, ZZZZZZ));
        due("23 inside", 1, () -> x.between(Checks.word("bbb"), Checks.word("e")));
        due("23 one ahead of the other", IAE, () -> x.between(4, b));
        due("23 not by number", IAE, () -> x.between(3, Checks.word("bz")));
        due("23 not by number either", 1, () -> x.between(Checks.word("ba"), 3));
        refusesNoWords("23 first", w -> x.between(w, ZZZZZZ));
        refusesNoWords("23 second", w -> x.between(1, w));
    }

    /** Promise 24. */
    private static void beginning() {
        WordFinder x = Checks.with("a ab abc abzzzz ac b abcdef zzzzzz z");
        due("24 itself, too", 4, () -> x.beginning(Checks.word("ab")));
        due("24 one letter", 6, () -> x.beginning(1));
        due("24 six letters", 1, () -> x.beginning(Checks.word("abcdef")));
        due("24 not in the index", 1, () -> x.beginning(Checks.word("abcd")));
        due("24 none", 0, () -> x.beginning(Checks.word("bb")));
        due("24 z", 2, () -> x.beginning(26));
        due("24 all z", 1, () -> x.beginning(ZZZZZZ));
        refusesNoWords("24 beginning", x::beginning);
    }

    /** Promises 25 to 27. */
    private static void textsWithIsInNextWith() {
        WordFinder x = Checks.with("cat cat", "dog", "cat dog");
        due("25 twice in one", 2, () -> x.textsWith(CAT));
        due("25 none", 0, () -> x.textsWith(BIRD));
        refusesNoWords("25 textsWith", x::textsWith);
        due("26 has", true, () -> x.isIn(CAT, 0));
        due("26 has not", false, () -> x.isIn(CAT, 1));
        due("26 not there", false, () -> x.isIn(CAT, 3));
        due("26 far", false, () -> x.isIn(CAT, Integer.MAX_VALUE));
        due("26 100", false, () -> x.isIn(CAT, 100));
        due("26 64 is not 0", false, () -> x.isIn(CAT, 64));
        due("26 not in the index", false, () -> x.isIn(BIRD, 0));
        due("26 below", IOOBE, () -> x.isIn(CAT, -1));
        refusesNoWords("26 isIn", w -> x.isIn(w, -1));
        due("27 itself", 0, () -> x.nextWith(CAT, 0));
        due("27 next", 2, () -> x.nextWith(CAT, 1));
        due("27 none", -1, () -> x.nextWith(CAT, 3));
        due("27 far", -1, () -> x.nextWith(CAT, Integer.MAX_VALUE));
        due("27 not in the index", -1, () -> x.nextWith(BIRD, 0));
        due("27 below", IOOBE, () -> x.nextWith(CAT, -1));
        refusesNoWords("27 nextWith", w -> x.nextWith(w, -1));
        WordFinder full = new WordFinder();
        for (int i = 0; i < 100; i++) {
            full.addText();
            if (i % 3 == 0) {
                full.putWord(i, 0, CAT);
            }
        }
        due("25 of a hundred", 34, () -> full.textsWith(CAT));
        due("26 in 63", true, () -> full.isIn(CAT, 63));
        due("26 not in 64", false, () -> full.isIn(CAT, 64));
        due("26 in 99", true, () -> full.isIn(CAT, 99));
        due("27 from 64", 66, () -> full.nextWith(CAT, 64));
        due("27 from 97", 99, () -> full.nextWith(CAT, 97));
    }

    /** Promises 28 and 29. */
    private static void placesPlaceIn() {
        WordFinder x = Checks.with("cat dog cat", "dog", "cat");
        due("28 all places", 3, () -> x.places(CAT));
        due("28 none", 0, () -> x.places(BIRD));
        refusesNoWords("28 places", x::places);
        due("29 first", 0, () -> x.placeIn(CAT, 0, 0));
        due("29 second", 2, () -> x.placeIn(CAT, 0, 1));
        due("29 not so many", -1, () -> x.placeIn(CAT, 0, 2));
        due("29 below", -1, () -> x.placeIn(CAT, 0, -1));
        due("29 far below", -1, () -> x.placeIn(CAT, 0, Integer.MIN_VALUE));
        due("29 far", -1, () -> x.placeIn(CAT, 0, Integer.MAX_VALUE));
        due("29 not in it", -1, () -> x.placeIn(CAT, 1, 0));
        refusesTexts("29 placeIn", t -> x.placeIn(CAT, t, 0));
        refusesNoWords("29 placeIn", w -> x.placeIn(w, 50, 0));
    }

    /** Promise 30. */
    private static void frequent() {
        WordFinder x = Checks.with("cat dog dog dog", "cat ant", "cat bird dog", "bird zz");
        List<String> order = List.of("cat", "bird", "dog", "ant", "zz");
        for (int i = 0; i < 5; i++) {
            int rank = i;
            due("30 rank " + i, Checks.word(order.get(i)), () -> x.frequent(rank));
        }
        due("30 above", IOOBE, () -> x.frequent(5));
        due("30 below", IOOBE, () -> x.frequent(-1));
        due("30 far", IOOBE, () -> x.frequent(Integer.MAX_VALUE));
        due("30 empty", IOOBE, () -> new WordFinder().frequent(0));
        WordFinder full = new WordFinder();
        for (int i = 0; i < 100; i++) {
            full.addText();
            full.putWord(i, 0, CAT);
        }
        due("30 in all hundred", CAT, () -> full.frequent(0));
        full.putWord(99, 0, DOG);
        due("30 again", CAT, () -> full.frequent(0));
        due("30 in one of them", DOG, () -> full.frequent(1));
    }

    /** Promise 31. */
    private static void together() {
        WordFinder x = Checks.with("cat dog", "cat dog bird", "cat", "dog");
        due("31 both", 2, () -> x.together(CAT, DOG));
        due("31 the other way", 2, () -> x.together(DOG, CAT));
        due("31 the same", 3, () -> x.together(CAT, CAT));
        due("31 not in the index", 0, () -> x.together(CAT, ZZZZZZ));
        due("31 none at first", 0, () -> x.together(ZZZZZZ, CAT));
        refusesNoWords("31 word", w -> x.together(w, CAT));
        refusesNoWords("31 other", w -> x.together(CAT, w));
        WordFinder full = new WordFinder();
        for (int i = 0; i < 100; i++) {
            full.addText();
            full.putWord(i, 0, i % 2 == 0 ? CAT : DOG);
            full.putWord(i, 0, i % 3 == 0 ? BIRD : 1);
        }
        due("31 of a hundred", 17, () -> full.together(CAT, BIRD));
    }

    /** Promise 32. */
    private static void companion() {
        WordFinder x = Checks.with("cat dog bird", "cat dog", "ant cat", "lone lone", "ant bird");
        due("32 most texts", DOG, () -> x.companion(CAT));
        due("32 first of several", Checks.word("ant"), () -> x.companion(BIRD));
        due("32 not itself", -1, () -> x.companion(Checks.word("lone")));
        due("32 not in the index", -1, () -> x.companion(ZZZZZZ));
        refusesNoWords("32 companion", x::companion);
    }

    /** Promises 33 and 34. */
    private static void neighbours() {
        WordFinder x = Checks.with("cat cats cut at ca ct scat coat dog cot", "cast tac c abcdef bcdef abcde zbcdef");
        List<String> order = List.of("at", "ca", "cast", "cats", "coat", "cot", "ct", "cut", "scat");
        due("33 of cat", 9, () -> x.neighbours(CAT));
        for (int i = 0; i < 9; i++) {
            int index = i;
            due("34 order", Checks.word(order.get(i)), () -> x.neighbourAt(CAT, index));
        }
        due("34 above", -1, () -> x.neighbourAt(CAT, 9));
        due("34 below", -1, () -> x.neighbourAt(CAT, -1));
        due("34 far", -1, () -> x.neighbourAt(CAT, Integer.MAX_VALUE));
        due("33 of six letters", 3, () -> x.neighbours(Checks.word("abcdef")));
        due("33 not in the index", 1, () -> x.neighbours(Checks.word("og")));
        due("34 not in the index", DOG, () -> x.neighbourAt(Checks.word("og"), 0));
        due("33 of one letter", 1, () -> x.neighbours(Checks.word("q")));
        due("34 the only word", 1, () -> Checks.with("a").neighbourAt(2, 0));
        due("33 none", 0, () -> x.neighbours(ZZZZZZ));
        due("34 none", -1, () -> x.neighbourAt(ZZZZZZ, 0));
        refusesNoWords("33 neighbours", x::neighbours);
        refusesNoWords("34 neighbourAt", w -> x.neighbourAt(w, 0));
    }

    private static void reads(String query, int error) {
        Checks.reads(query, error);
    }

    /** Section 3, promises 35 and 40: the grammar. */
    private static void grammar() {
        Map<String, Integer> errors = Map.ofEntries(entry("", 0), entry("   \n ", 5), entry("cat&", 4),
            entry("cat& ", 5), entry("cat|", 4), entry("cat dog", 4), entry("(cat", 4), entry("(cat ", 5),
            entry("cat)", 3), entry(")", 0), entry("()", 1), entry("!", 1), entry("!&cat", 1), entry("|cat", 0),
            entry("&cat", 0), entry("*", 0), entry("cat**", 4), entry("cat~", 4), entry("cat~5", 5),
            entry("cat~dog", 4), entry("cat~5dog*", 8), entry("cat~5dog~5cat", 8), entry("cat~5[dog]", 5),
            entry("cat~5!dog", 5), entry("cat~5(dog)", 5), entry("[]", 1), entry("[", 1), entry("[cat", 4),
            entry("[cat|dog]", 4), entry("[cat*]", 4), entry("[cat]*", 5), entry("[cat]~3dog", 5), entry("]", 0),
            entry("(cat]", 4), entry("[cat)", 4), entry("[5]", 1), entry("5", 0), entry("cat5", 3),
            entry("cat 5", 4), entry("(cat)*", 5), entry("cat!dog", 3), entry("cat(dog)", 3), entry("cat||dog", 4),
            entry("[cat [dog]]", 5), entry("(cat dog)", 5));
        for (Map.Entry<String, Integer> query : errors.entrySet()) {
            reads(query.getKey(), query.getValue());
        }
        for (String query : List.of("cat", " cat ", "\ncat\n", "cat *", "cat ~ 5 dog", "[ cat dog ]", "[cat]",
            "! cat", "!!cat", "( cat | dog ) & bird", "cat&dog|bird&ant|bee", "!(cat)", "!(!cat|!(dog&bird))",
            "cat~5dog|[a b c]&d*", "cat\n&\ndog")) {
            reads(query, -1);
        }
    }

    /** Section 3: the tokens. */
    private static void tokens() {
        reads("abcdef", -1);
        reads("abcdefg", 0);
        reads("a|abcdefg", 2);
        reads("abcdef g", 7);
        reads("Cat", 0);
        reads("caT", 2);
        reads("cat\t", 3);
        reads("cat\r", 3);
        reads("cat-", 3);
        reads("cat" + (char) 233, 3);
        reads("{cat}", 0);
        reads("cat^", 3);
        reads("a~1b", -1);
        reads("a~40b", -1);
        reads("a~01b", -1);
        reads("a~9b", -1);
        reads("a~39b", -1);
        reads("a~19b", -1);
        reads("a~0b", 2);
        reads("a~00b", 2);
        reads("a~41b", 2);
        reads("a~99b", 2);
        reads("a~001b", 2);
        reads("a~ 001b", 3);
        reads("a~4294967297b", 2);
        reads("a~1 2b", 4);
        reads("a~" + Checks.repeat("1", 200) + "b", 2);
        reads("a|" + Checks.repeat("b", 200), 2);
    }

    /** Section 3: at most 8 open signs, at most 20 words. */
    private static void limitsOfQueries() {
        reads(Checks.repeat("!", 8) + "a", -1);
        reads(Checks.repeat("!", 9) + "a", 8);
        reads(Checks.repeat("(", 8) + "a" + Checks.repeat(")", 8), -1);
        reads(Checks.repeat("(", 9) + "a" + Checks.repeat(")", 9), 8);
        reads("!(!(!(!(a))))", -1);
        reads("!(!(!(!(!a))))", 8);
        reads("!(!(!(!((a)))))", 8);
        reads("!!!!!!!!a&!!!!!!!!b", -1);
        reads("(((((((!a&!b)))))))", -1);
        reads("(((((((!a&!!b)))))))", 11);
        reads("!!!!!!!(a)|(b)", -1);
        reads("((((((((a))))))))&((((((((b))))))))", -1);
        reads("a" + Checks.repeat("|a", 19), -1);
        reads("a" + Checks.repeat("|a", 20), 40);
        reads("[" + Checks.repeat("a ", 20) + "]", -1);
        reads("[" + Checks.repeat("a ", 21) + "]", 41);
        reads("a~1b" + Checks.repeat("&a~1b", 9), -1);
        reads("a~1b" + Checks.repeat("&a~1b", 9) + "|c", 50);
        reads("c|a~1b" + Checks.repeat("&a~1b", 9), 50);
        reads("a*" + Checks.repeat("|a*", 20), 60);
    }

    /** Section 3: which texts satisfy a query. */
    private static void meaning() {
        WordFinder x = Checks.with("cat dog cat", "dog bird", "", "catnip ca cat", "a b c d e f", "a a a");
        Map<String, String> found = Map.ofEntries(entry("cat", "0 3"), entry("cat*", "0 3"), entry("ca*", "0 3"),
            entry("catn*", "3"), entry("!cat", "1 2 4 5"), entry("!!cat", "0 3"), entry("cat&dog", "0"),
            entry("cat|dog", "0 1 3"), entry("cat|dog&bird", "0 1 3"), entry("(cat|dog)&bird", "1"),
            entry("!cat&dog", "1"), entry("!(cat&dog)", "1 2 3 4 5"), entry("dog~1cat", "0"),
            entry("cat~1dog", "0"), entry("cat~2cat", "0"), entry("cat~1cat", ""), entry("a~1f", ""),
            entry("a~4f", ""), entry("a~5f", "4"), entry("f~5a", "4"), entry("a~1a", "5"), entry("[cat dog]", "0"),
            entry("[dog cat]", "0"), entry("[cat cat]", ""), entry("[c d e]", "4"), entry("[c e]", ""),
            entry("[a a a]", "5"), entry("[a a a a]", ""), entry("[f]", "4"), entry("[f a]", ""), entry("z", ""),
            entry("!z", "0 1 2 3 4 5"), entry("cat & !dog | bird", "1 3"));
        for (Map.Entry<String, String> query : found.entrySet()) {
            due("35 found for " + query.getKey(), query.getValue(), () -> {
                Checks.feed(x, query.getKey());
                int count = x.ask();
                StringBuilder all = new StringBuilder();
                for (int i = 0; i < count; i++) {
                    all.append(i == 0 ? "" : " ").append(x.foundAt(i));
                }
                return all.append(x.foundAt(count) == -1 ? "" : " and more").toString();
            });
        }
    }

    /** Promises 35 and 37. */
    private static void askAndFound() {
        WordFinder x = Checks.with("cat", "dog", "cat");
        due("35 count", 2, () -> Checks.ask(x, "cat"));
        due("37 first", 0, () -> x.foundAt(0));
        due("37 second", 2, () -> x.foundAt(1));
        due("37 above", -1, () -> x.foundAt(2));
        due("37 below", -1, () -> x.foundAt(-1));
        due("37 far", -1, () -> x.foundAt(Integer.MAX_VALUE));
        x.removeText(0);
        due("37 as it was then", 0, () -> x.foundAt(0));
        due("38 as it was then", 2, () -> x.rankAt(1));
        due("39 as it was then", 1, () -> x.scoreAt(0));
        due("35 an error", IAE, () -> {
            Checks.feed(x, "cat&");
            return x.ask();
        });
        due("37 stays after an error", 2, () -> x.foundAt(1));
        due("37 keep finds", 1, () -> Checks.keep(x, 0, "dog"));
        due("37 stays after keep", 2, () -> x.foundAt(1));
        due("35 nothing", 0, () -> Checks.ask(x, "zebra"));
        due("37 nothing", -1, () -> x.foundAt(0));
    }

    private static void scores(WordFinder x, String query, int text, int score) {
        due("39 score of " + query + " in " + text, score, () -> {
            Checks.feed(x, query);
            int count = x.ask();
            for (int i = 0; i < count; i++) {
                if (x.rankAt(i) == text) {
                    return x.scoreAt(i);
                }
            }
            return "not found";
        });
    }

    /** Promises 38 and 39. */
    private static void ranks() {
        WordFinder x = Checks.with("cat", "cat cat cat", "dog", "cat cat", "dog cat cat");
        due("38 ask", 4, () -> Checks.ask(x, "cat"));
        ranked(x, new int[] {1, 3, 4, 0}, new int[] {3, 2, 2, 1});
        Checks.feed(x, "cat cat cat cat");
        x.addText();
        due("38 with dogs", 6, () -> Checks.ask(x, "cat&!dog|dog"));
        ranked(x, new int[] {5, 1, 4, 3, 0, 2}, new int[] {4, 3, 3, 2, 1, 1});
        due("38 none", -1, () -> x.rankAt(6));
        due("38 again", 6, () -> Checks.ask(x, "dog|!dog"));
        ranked(x, new int[] {2, 4, 0, 1, 3, 5}, new int[] {1, 1, 0, 0, 0, 0});
        for (int none : new int[] {-1, 6, Integer.MIN_VALUE, Integer.MAX_VALUE}) {
            due("38 none", -1, () -> x.rankAt(none));
            due("39 none", -1, () -> x.scoreAt(none));
        }
        scoresOfParts();
    }

    private static void ranked(WordFinder x, int[] ranks, int[] scores) {
        for (int i = 0; i < ranks.length; i++) {
            int rank = i;
            due("38 rank", ranks[i], () -> x.rankAt(rank));
            due("39 score", scores[i], () -> x.scoreAt(rank));
        }
    }

    private static void scoresOfParts() {
        WordFinder y = Checks.with("a a a", "ab b a abc", "a b a b", "x y z x y x");
        scores(y, "a*", 1, 3);
        scores(y, "a~1a", 0, 4);
        scores(y, "a~2a", 0, 6);
        scores(y, "a~1b", 2, 3);
        scores(y, "a~3b", 2, 4);
        scores(y, "b~3a", 2, 4);
        scores(y, "[a a]", 0, 2);
        scores(y, "[a b]", 2, 2);
        scores(y, "[x y]", 3, 2);
        scores(y, "x|x|x", 3, 9);
        scores(y, "x&!a", 3, 3);
        scores(y, "!!x", 3, 3);
        scores(y, "!!!b", 3, 0);
        scores(y, "!(a&!x)", 3, 3);
        scores(y, "x|y&z", 3, 6);
        scores(y, "a|q", 0, 3);
    }

    /** Promise 36. */
    private static void askKept() {
        WordFinder x = Checks.with("cat cat", "dog");
        refusesPlaces("36 askKept", x::askKept);
        due("36 none", NSEE, () -> x.askKept(0));
        Checks.keep(x, 5, "cat|dog");
        due("36 ask", 2, () -> x.askKept(5));
        due("36 found", 1, () -> x.foundAt(1));
        due("36 rank", 0, () -> x.rankAt(0));
        due("36 score", 2, () -> x.scoreAt(0));
        due("36 none there", NSEE, () -> x.askKept(4));
        due("36 stays", 1, () -> x.foundAt(1));
        Checks.feed(x, "cat");
        due("36 does not read the tape", 2, () -> x.askKept(5));
        due("36 tape", 3, x::clearTape);
        Checks.feed(x, "cat dog cat");
        x.addText();
        due("36 the texts of now", 3, () -> x.askKept(5));
        due("36 the scores of now", 3, () -> x.scoreAt(0));
    }

    /** Promise 40. */
    private static void keep() {
        WordFinder x = Checks.with("cat", "dog");
        due("40 keep", 1, () -> Checks.keep(x, 0, "cat"));
        due("40 in place of it", 2, () -> Checks.keep(x, 0, "cat|dog"));
        due("40 written", "cat|dog", () -> Checks.written(x, 0));
        due("40 no events", 0, x::events);
        due("40 an error", IAE, () -> {
            Checks.feed(x, "cat|");
            return x.keep(0);
        });
        due("40 stays", "cat|dog", () -> Checks.written(x, 0));
        Checks.feed(x, "bird");
        refusesPlaces("40 keep", x::keep);
        due("40 tape stays", 0, () -> x.keep(5));
        due("40 bird", "bird", () -> Checks.written(x, 5));
    }

    /** Promise 41. */
    private static void keepNot() {
        WordFinder x = Checks.with("a", "b", "a b");
        Map<String, String> negations = Map.ofEntries(entry("a", "!a"), entry("!a", "a"), entry("!!a", "!a"),
            entry("a*", "!a*"), entry("a~5b", "!a~5b"), entry("[a b]", "![a b]"), entry("a&b", "!a|!b"),
            entry("a|b", "!a&!b"), entry("a&b|c", "(!a|!b)&!c"), entry("(a|b)&c", "!a&!b|!c"),
            entry("!(a|b)", "a|b"), entry("!(a|b)&c", "(a|b)|!c"),
            entry("!(a&b)|c", "(a&b)&!c"), entry("a&(b&c)", "!a|(!b|!c)"),
            entry("((a))", "!a"), entry("!((a))", "a"), entry("!(!(a|b))", "!(a|b)"), entry("a&!b&c", "!a|b|!c"));
        for (Map.Entry<String, String> query : negations.entrySet()) {
            due("41 negation of " + query.getKey(), query.getValue(), () -> {
                Checks.keep(x, 0, query.getKey());
                x.keepNot(1, 0);
                return Checks.written(x, 1);
            });
        }
        Checks.keep(x, 0, Checks.repeat("a|b&(", 8) + "c|d" + Checks.repeat(")", 8));
        x.keepNot(1, 0);
        due("41 as deep as can be", Checks.repeat("!a&(!b|", 8) + "!c&!d" + Checks.repeat(")", 8),
            () -> Checks.written(x, 1));
        x.keepNot(2, 1);
        due("41 and back", Checks.written(x, 0), () -> Checks.written(x, 2));
        due("43 as deep as can be", 18, () -> x.parts(2));
        due("49 as deep as can be", -1, () -> x.compare(0, 2));
        due("49 and its negation", 0, () -> x.compare(0, 1));
        Checks.keep(x, 2, "a&!b");
        due("41 found now", 2, () -> x.keepNot(2, 2));
        due("41 in place of itself", "!a|b", () -> Checks.written(x, 2));
        due("41 no events", 0, x::events);
        refusesPlaces("41 place", p -> x.keepNot(p, 5));
        refusesPlaces("41 other", p -> x.keepNot(5, p));
        due("41 none there", NSEE, () -> x.keepNot(0, 5));
        due("41 stays", false, () -> Checks.written(x, 0).isEmpty());
        Checks.keep(x, 0, "a");
        x.keepNot(1, 0);
        x.removeText(0);
        due("41 the negation is told, too", "0 0 0", () -> event(x, 0));
        x.removeText(1);
        due("41 as it is found", "1 1 0", () -> event(x, 1));
        due("41 scores nothing under !", 0, () -> x.askKept(1) == 0 ? 0 : x.scoreAt(0));
    }

    /** Promise 42. */
    private static void drop() {
        WordFinder x = Checks.with("a");
        refusesPlaces("42 drop", p -> x.drop(p));
        due("42 none", false, () -> x.drop(0));
        Checks.keep(x, 0, "a");
        Checks.keep(x, 1, "a");
        due("42 one", true, () -> x.drop(0));
        due("42 no more", false, () -> x.drop(0));
        due("42 gone", NSEE, () -> x.askKept(0));
        x.removeText(0);
        due("42 tells nothing", 1, x::events);
        due("42 but the other one", 1, () -> x.eventOf(0, 0));
        Checks.keep(x, 0, "a");
        x.undo();
        due("42 found afresh", 3, x::events);
        due("42 comes", 1, () -> x.eventOf(1, 2));
    }

    /** Promises 43 and 44. */
    private static void partsPartFound() {
        WordFinder x = Checks.with("a b", "a", "ab", "b a");
        refusesPlaces("43 parts", x::parts);
        due("43 none", NSEE, () -> x.parts(0));
        refusesPlaces("44 partFound", p -> x.partFound(p, 99));
        due("44 none", NSEE, () -> x.partFound(0, 99));
        Checks.keep(x, 0, "a&!(a*|b~1a)|![a b]|a");
        due("43 parts", 5, () -> x.parts(0));
        int[] found = {3, 4, 2, 1, 3};
        for (int i = 0; i < 5; i++) {
            int part = i;
            due("44 part " + i, found[i], () -> x.partFound(0, part));
        }
        due("44 above", IOOBE, () -> x.partFound(0, 5));
        due("44 below", IOOBE, () -> x.partFound(0, -1));
        x.keepNot(1, 0);
        due("43 of the negation", 5, () -> x.parts(1));
        due("44 of the negation", 1, () -> x.partFound(1, 3));
        Checks.keep(x, 2, "a" + Checks.repeat("|a", 19));
        due("43 twenty", 20, () -> x.parts(2));
        due("44 the twentieth", 3, () -> x.partFound(2, 19));
    }

    /** Promises 45 and 46. */
    private static void write() {
        WordFinder x = new WordFinder();
        refusesPlaces("45 write", x::write);
        due("45 none", NSEE, () -> x.write(0));
        Map<String, String> texts = Map.ofEntries(entry(" a & b\n| c ", "a&b|c"), entry("(a|b)&c", "(a|b)&c"),
            entry("(a&b)|c", "a&b|c"), entry("(a&b)&c", "(a&b)&c"), entry("a&(b&c)", "a&(b&c)"),
            entry("a|(b|c)", "a|(b|c)"), entry("(a|b)|c", "(a|b)|c"), entry("((a|b))", "a|b"),
            entry("((a))&(b)", "a&b"), entry("!(a)", "!a"), entry("!(!a)", "!!a"), entry("!(a|b)", "!(a|b)"),
            entry("!(a&b)", "!(a&b)"), entry("(!a)", "!a"), entry("a ~ 07 b", "a~7b"), entry("a~40b", "a~40b"),
            entry("[ a\nb   c ]", "[a b c]"), entry("[a]", "[a]"), entry("abcdef *", "abcdef*"),
            entry("!([a b])", "![a b]"), entry("(a&b)|(c&d)", "a&b|c&d"), entry("((a|b)&(c|d))|e", "(a|b)&(c|d)|e"),
            entry("!!(a|b)", "!!(a|b)"), entry("(((a|b)|c)|d)", "((a|b)|c)|d"));
        for (Map.Entry<String, String> query : texts.entrySet()) {
            Checks.keep(x, 0, query.getKey());
            due("45 " + query.getKey(), query.getValue(), () -> Checks.written(x, 0));
        }
        String deep = Checks.repeat("a|b&(", 8) + "c|d" + Checks.repeat(")", 8);
        Checks.keep(x, 0, deep);
        due("45 as deep as can be", deep, () -> Checks.written(x, 0));
        Checks.keep(x, 0, "a|b");
        due("45 signs", 3, () -> x.write(0));
        due("46 sign", '|', () -> x.writtenAt(1));
        due("46 above", IOOBE, () -> x.writtenAt(3));
        due("46 below", IOOBE, () -> x.writtenAt(-1));
        due("45 none there", NSEE, () -> x.write(5));
        x.drop(0);
        due("46 stays", 'b', () -> x.writtenAt(2));
    }

    private static String event(WordFinder x, int event) {
        return x.eventOf(event, 0) + " " + x.eventOf(event, 1) + " " + x.eventOf(event, 2);
    }

    /** Promises 47 and 48, section 4. */
    private static void events() {
        WordFinder x = Checks.with("cat", "dog");
        Checks.keep(x, 5, "cat");
        Checks.keep(x, 2, "!cat");
        due("47 none", 0, x::events);
        due("48 none", IOOBE, () -> x.eventOf(0, 0));
        x.setWord(0, 0, DOG);
        due("47 two", 2, x::events);
        due("48 in the order of the places", "2 0 1", () -> event(x, 0));
        due("48 then the other", "5 0 0", () -> event(x, 1));
        x.setWord(0, 0, BIRD);
        x.setWord(0, 0, BIRD);
        due("47 no difference, no event", 2, x::events);
        x.putWord(0, 0, CAT);
        x.takeWord(0, 0);
        x.removeText(1);
        x.undo();
        Checks.feed(x, "cat");
        x.addText();
        Checks.feed(x, "dog");
        x.replaceText(2);
        List<String> all = List.of("2 0 1", "5 0 0", "2 0 0", "5 0 1", "2 0 1", "5 0 0", "2 1 0", "2 1 1", "5 2 1",
            "2 2 1", "5 2 0");
        due("47 all", all.size(), x::events);
        for (int i = 0; i < all.size(); i++) {
            int at = i;
            due("48 event " + i, all.get(i), () -> event(x, at));
        }
        due("48 above", IOOBE, () -> x.eventOf(all.size(), 3));
        due("48 below", IOOBE, () -> x.eventOf(-1, 3));
        due("48 what above", IAE, () -> x.eventOf(0, 3));
        due("48 what below", IAE, () -> x.eventOf(0, -1));

        WordFinder many = Checks.with("cat");
        Checks.keep(many, 0, "cat");
        for (int i = 0; i < 100; i++) {
            many.setWord(0, 0, i % 2 == 0 ? DOG : CAT);
        }
        due("47 hundred", 100, many::events);
        due("48 the oldest leaves", "0 0 0", () -> event(many, 0));
        many.setWord(0, 0, DOG);
        due("47 no more", 100, many::events);
        due("48 the oldest is gone", "0 0 1", () -> event(many, 0));
        due("48 the latest", "0 0 0", () -> event(many, 99));
        due("48 no 100", IOOBE, () -> many.eventOf(100, 0));
    }

    private static Object difference(WordFinder x, String first, String second) {
        Checks.keep(x, 0, first);
        Checks.keep(x, 1, second);
        int size = x.compare(0, 1);
        StringBuilder all = new StringBuilder("" + size);
        for (int i = 0; i < size; i++) {
            all.append(" ").append(Checks.letters(x.differAt(i)));
        }
        return all.append(x.differAt(Math.max(size, 0)) == -1 ? "" : " and more").toString();
    }

    /** Promises 49 and 50. */
    private static void compare() {
        WordFinder x = new WordFinder();
        refusesPlaces("49 place", p -> x.compare(p, 0));
        refusesPlaces("49 other", p -> x.compare(0, p));
        due("49 none", NSEE, () -> x.compare(0, 1));
        Map<List<String>, String> least = Map.ofEntries(entry(List.of("a", "b"), "1 a"), entry(List.of("a", "a"), "-1"),
            entry(List.of("a&b|c", "(a|c)&(b|c)"), "-1"), entry(List.of("a&b|c", "a&(b|c)"), "1 c"),
            entry(List.of("a", "!a"), "0"), entry(List.of("b&c", "c&a"), "2 a c"), entry(List.of("bb", "b"), "1 b"),
            entry(List.of("c&a&b", "a&z"), "2 a z"), entry(List.of("a|!a", "b|!b"), "-1"),
            entry(List.of("b&aa", "c&aa"), "2 aa b"), entry(List.of("!(a&b&c)", "a|!a"), "3 a b c"),
            entry(List.of("z&y", "y&x&w"), "2 y z"));
        for (Map.Entry<List<String>, String> pair : least.entrySet()) {
            List<String> both = pair.getKey();
            due("49 " + both, pair.getValue(), () -> difference(x, both.get(0), both.get(1)));
            due("49 turned " + both, pair.getValue(), () -> difference(x, both.get(1), both.get(0)));
        }
        Checks.keep(x, 0, "a|b|c|d|e");
        Checks.keep(x, 1, "f&g&h&i&j&a&a");
        due("49 ten words", 1, () -> x.compare(0, 1));
        due("50 word", 1, () -> x.differAt(0));
        due("50 above", -1, () -> x.differAt(1));
        due("50 below", -1, () -> x.differAt(-1));
        due("50 far", -1, () -> x.differAt(Integer.MAX_VALUE));
        Checks.keep(x, 2, "f&g&h&i&j&k");
        due("49 eleven words", ISE, () -> x.compare(0, 2));
        due("50 stays", 1, () -> x.differAt(0));
        for (String other : List.of("a*", "a~1b", "[a]", "a|!(b*)")) {
            Checks.keep(x, 3, other);
            due("49 " + other, ISE, () -> x.compare(0, 3));
            due("49 ahead " + other, ISE, () -> x.compare(3, 0));
            due("49 twice " + other, ISE, () -> x.compare(3, 3));
        }
        due("49 none at other", NSEE, () -> x.compare(3, 5));
        due("49 none at place", NSEE, () -> x.compare(5, 3));
        due("49 itself", -1, () -> x.compare(0, 0));
        due("50 none", -1, () -> x.differAt(0));
    }

    /** Promises 51 and 52. */
    private static void unlikeCommon() {
        WordFinder x = Checks.with("a b a c", "c c a d", "", "z");
        due("51 unlike", 3, () -> x.unlike(0));
        due("51 none", 0, () -> x.unlike(2));
        refusesTexts("51 unlike", x::unlike);
        due("52 common", 2, () -> x.common(0, 1));
        due("52 turned", 2, () -> x.common(1, 0));
        due("52 the same", 3, () -> x.common(0, 0));
        due("52 none", 0, () -> x.common(0, 3));
        due("52 empty", 0, () -> x.common(2, 0));
        refusesTexts("52 text", t -> x.common(t, 0));
        refusesTexts("52 other", t -> x.common(0, t));
    }

    /** Promise 53. */
    private static void nearest() {
        WordFinder x = Checks.with("a b c", "a b c d e f", "a b", "b a", "z", "", "");
        due("53 greatest share", 2, () -> x.nearest(0));
        due("53 the least number", 3, () -> x.nearest(2));
        due("53 turned", 2, () -> x.nearest(3));
        due("53 nothing in common", 0, () -> x.nearest(4));
        due("53 both without words", 0, () -> x.nearest(5));
        due("53 not itself", 0, () -> x.nearest(6));
        refusesTexts("53 nearest", x::nearest);
        due("53 one word each", 1, () -> Checks.with("a", "a", "a").nearest(0));
        due("53 no other one", -1, () -> Checks.with("a").nearest(0));
        due("53 empty and alone", -1, () -> Checks.with("").nearest(0));
        WordFinder y = Checks.with("", "a b c d e", "b c d e f g h", "a x");
        due("53 behind an empty one", 2, () -> y.nearest(1));
        due("53 as fractions", 1, () -> y.nearest(3));
        WordFinder z = Checks.with("", "", "a", "a");
        due("53 all shares 0", 1, () -> z.nearest(0));
        due("53 the same words", 3, () -> z.nearest(2));
    }

    /** Promises 54 and 55. */
    private static void figures() {
        due("54 without texts", 0.0, () -> new WordFinder().meanLength());
        due("54 mean", 2.0 / 3.0, () -> Checks.with("a", "", "b").meanLength());
        due("54 empty", 0.0, () -> Checks.with("", "").meanLength());
        WordFinder x = Checks.with("cat cat", "cat", "dog");
        due("55 share", 2.0f / 3.0f, () -> x.share(CAT));
        due("55 none", 0.0f, () -> x.share(BIRD));
        due("55 without texts", 0.0f, () -> new WordFinder().share(CAT));
        refusesNoWords("55 share", x::share);
        refusesNoWords("55 share without texts", w -> new WordFinder().share(w));
    }

    /** Promise 56. */
    private static void errors() {
        WordFinder x = Checks.with("cat dog", "dog bird cat", "");
        due("56 none", 0, x::errors);
        Checks.keep(x, 0, "cat&!bird|zebra");
        x.keepNot(1, 0);
        due("56 none with kept queries", 0, x::errors);
        x.takeWord(1, 1);
        x.removeText(0);
        x.undo();
        x.setWord(0, 1, BIRD);
        x.putWord(2, 0, ZZZZZZ);
        due("56 none after changes", 0, x::errors);
        due("56 none at all", 0, () -> new WordFinder().errors());
    }
}
