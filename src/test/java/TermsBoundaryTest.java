import java.util.ArrayList;
import java.util.List;
import java.util.TreeSet;
import java.util.function.IntFunction;

/** Sections 1, 2, 5 and 6 of the document: each sentence that names a boundary, just inside it and just outside it. */
public final class TermsBoundaryTest {
    private static final String ISE = "throws IllegalStateException";
    private static final String IAE = "throws IllegalArgumentException";
    private static final String IOOBE = "throws IndexOutOfBoundsException";
    private static final String NSEE = "throws NoSuchElementException";

    private static final int A = 1;
    private static final int B = 2;
    private static final int CAT = Checks.word("cat");
    private static final int DOG = Checks.word("dog");

    public static void main(String[] args) {
        callsOfAnObject();
        numbersOfWords();
        orderOfADictionary();
        wordsOfAText();
        numbersOfTexts();
        leastFreeNumber();
        bytesOnTheTape();
        sixLetters();
        fortyWords();
        firstOfSeveralErrors();
        wordsOfTheIndex();
        textsOfAWord();
        textsThatLoseAWord();
        wordsOfAHundredTexts();
        twoThousandWords();
        placesOfAWord();
        neighboursOfAllShortWords();
        neighboursAtTheLimits();
        companions();
        commonWords();
        nearestTexts();
        changesThatCanBeUndone();
        onceOlderThanTwenty();
        whatIsNoChange();
        whatUndoBringsBack();
        Checks.end("TermsBoundaryTest");
    }

    private static void due(String what, Object want, Checks.Call call) {
        Checks.due(what, want, call);
    }

    private static String aTimes(int times) {
        return Checks.repeat("a ", times);
    }

    // ---- What it is.

    /** "An object is used for at most 512 calls": the 512th is answered as the first ones are. */
    private static void callsOfAnObject() {
        WordFinder x = new WordFinder();
        x.addText();
        for (int i = 0; i < 255; i++) {
            x.putWord(0, 0, CAT);
            x.takeWord(0, 0);
        }
        due("512th call of changes", 20, x::undoable);
        WordFinder y = new WordFinder();
        for (int i = 1; i < 512; i++) {
            int want = Math.min(i, 300);
            due("append " + i, i <= 300 ? want : ISE, () -> y.append(0, 0, 0, 0, 'a'));
        }
        due("512th call of appends", 300, y::clearTape);
    }

    // ---- 1. Words and texts.

    /** "A word has 1 to 6 letters a to z": numbers beside the powers of 27, of seven letters, and far ones. */
    private static void numbersOfWords() {
        TreeSet<Integer> numbers = new TreeSet<>(List.of(Integer.MIN_VALUE, Integer.MIN_VALUE + 1, Integer.MAX_VALUE,
            Integer.MAX_VALUE - 1, -CAT, CAT, Checks.word("aaaaaa"), Checks.word("aaaaaaa"), Checks.word("aaaaaab"),
            Checks.word("eaaaaaa"), Checks.word("ennnnnn"), Checks.word("azazaz")));
        int power = 1;
        for (int i = 0; i <= 6; i++) {
            for (int by = -29; by <= 29; by++) {
                numbers.add(power + by);
            }
            power *= 27;
        }
        for (int number : numbers) {
            if (isNumberOfWord(number)) {
                takes(number);
            } else {
                refuses(number);
            }
        }
        due("zzzzzz is the greatest", true, () -> isNumberOfWord(387420488) && !isNumberOfWord(387420489));
    }

    private static boolean isNumberOfWord(int number) {
        String digits = Integer.toString(number, 27);
        return number > 0 && digits.length() <= 6 && digits.indexOf('0') < 0;
    }

    /** Every call that asks for the number of a word takes this one. */
    private static void takes(int word) {
        WordFinder x = Checks.with("cat", "");
        String letters = Checks.letters(word);
        due("put " + word, 1, () -> x.putWord(1, 0, word));
        due("set " + word, CAT, () -> x.setWord(0, 0, word));
        due("text " + word, letters, () -> Checks.text(x, 0));
        for (int i = 0; i < letters.length(); i++) {
            int at = i;
            due("letter of " + word, letters.charAt(i), () -> x.letterAt(1, 0, at));
        }
        due("no letter of " + word, IOOBE, () -> x.letterAt(1, 0, letters.length()));
        due("first " + word, word, x::firstWord);
        due("behind " + word, -1, () -> x.beside(word, true));
        due("ahead of " + word, -1, () -> x.beside(word, false));
        due("between " + word, 0, () -> x.between(word, word));
        due("up to the last " + word, word == Checks.word("zzzzzz") ? 0 : 1,
            () -> x.between(word, Checks.word("zzzzzz")));
        due("from the first " + word, word == A ? 0 : 1, () -> x.between(A, word) + (word == A ? 0 : 1));
        due("beginning " + word, 1, () -> x.beginning(word));
        due("texts with " + word, 2, () -> x.textsWith(word));
        due("is in " + word, true, () -> x.isIn(word, 1));
        due("next with " + word, 1, () -> x.nextWith(word, 1));
        due("places of " + word, 2, () -> x.places(word));
        due("place of " + word, 0, () -> x.placeIn(word, 0, 0));
        due("together " + word, 2, () -> x.together(word, word));
        due("companion of " + word, -1, () -> x.companion(word));
        due("neighbours of " + word, 0, () -> x.neighbours(word));
        due("neighbour of " + word, -1, () -> x.neighbourAt(word, 0));
        due("share of " + word, 1.0f, () -> x.share(word));
        due("beginning of a query " + word, 2, () -> Checks.ask(x, letters + "*"));
    }

    /** Every call that asks for the number of a word refuses this one. */
    private static void refuses(int number) {
        WordFinder x = Checks.with("cat cat", "");
        List<IntFunction<Object>> calls = List.of(w -> x.putWord(1, 0, w), w -> x.setWord(0, 0, w),
            w -> x.beside(w, true), w -> x.beside(w, false), w -> x.between(w, CAT), w -> x.between(CAT, w),
            x::beginning, x::textsWith, w -> x.isIn(w, 0), w -> x.nextWith(w, 0), x::places, w -> x.placeIn(w, 0, 0),
            w -> x.together(w, CAT), w -> x.together(CAT, w), x::companion, x::neighbours, w -> x.neighbourAt(w, 0),
            x::share);
        for (int i = 0; i < calls.size(); i++) {
            IntFunction<Object> call = calls.get(i);
            due("call " + i + " with " + number, IAE, () -> call.apply(number));
        }
        due("texts as they were", "cat cat, ", () -> Checks.text(x, 0) + ", " + Checks.text(x, 1));
        due("no change with " + number, 2, x::undoable);
    }

    /** "By their first letter that is unlike; one that is the beginning of another one comes ahead of it." */
    private static void orderOfADictionary() {
        String[] order = {"a", "aa", "aaaaaa", "aaaaab", "aaaaaz", "aaaab", "ab", "az", "azzzzz", "b", "ba", "bazzzz",
            "bb", "y", "yzzzzz", "z", "za", "zz", "zzzzz", "zzzzza", "zzzzzz"};
        for (int i = 0; i < order.length; i++) {
            WordFinder x = Checks.with("zzzzzz bb a az aaaaab y ba azzzzz zz aa", "zzzzza yzzzzz b aaaaaz aaaaaa z za",
                "zzzzz ab aaaab bazzzz");
            int at = i;
            int word = Checks.word(order[i]);
            due("all words", order.length, x::words);
            due("order", order[i], () -> Checks.letters(x.indexWord(at)));
            due("behind " + order[i], i + 1 < order.length ? Checks.word(order[i + 1]) : -1, () -> x.beside(word, true));
            due("ahead of " + order[i], i > 0 ? Checks.word(order[i - 1]) : -1, () -> x.beside(word, false));
            due("of as many texts " + order[i], word, () -> x.frequent(at));
            for (int j = 0; j < order.length; j++) {
                int other = Checks.word(order[j]);
                due("between " + order[i] + " and " + order[j], j >= i ? j - i : IAE, () -> x.between(word, other));
            }
        }
    }

    /** "A text is a row of 0 to 40 words, at the places from 0 on." */
    private static void wordsOfAText() {
        WordFinder x = Checks.with("");
        due("no words", 0, () -> x.length(0));
        due("no place 0", IOOBE, () -> x.wordAt(0, 0));
        for (int i = 1; i <= 40; i++) {
            int size = i;
            due("put behind " + i, size, () -> x.putWord(0, size - 1, B));
        }
        due("place 39", B, () -> x.wordAt(0, 39));
        due("no place 40", IOOBE, () -> x.wordAt(0, 40));
        for (int place : new int[] {0, 20, 39, 40}) {
            due("a 41st at " + place, ISE, () -> x.putWord(0, place, A));
        }
        due("as many words", 40, () -> x.length(0));
        due("as many places", 40, () -> x.places(B));
        due("none came", 0, () -> x.textsWith(A));
        due("set the last", B, () -> x.setWord(0, 39, A));
        due("set none behind", IOOBE, () -> x.setWord(0, 40, A));
        due("take none behind", IOOBE, () -> x.takeWord(0, 40));
        due("take the last", A, () -> x.takeWord(0, 39));
        due("one more again", 40, () -> x.putWord(0, 0, A));
        due("at the first place", A, () -> x.wordAt(0, 0));
        for (int i = 39; i >= 0; i--) {
            x.takeWord(0, i);
        }
        due("none to take", IOOBE, () -> x.takeWord(0, 0));
        due("without words", 0, () -> x.length(0));
        due("still there", 1, x::texts);
    }

    /** "There are at most 100 texts, with numbers from 0 to 99." */
    private static void numbersOfTexts() {
        WordFinder x = new WordFinder();
        for (int i = 0; i < 99; i++) {
            x.addText();
        }
        due("ninety-nine", 99, x::texts);
        due("no text 99 yet", IOOBE, () -> x.length(99));
        Checks.feed(x, "cat");
        due("the hundredth", 99, x::addText);
        due("hundred", 100, x::texts);
        due("text 99", 1, () -> x.length(99));
        due("no text 100", IOOBE, () -> x.length(100));
        due("no hundred and first", ISE, x::addText);
        due("still hundred", 100, x::texts);
        due("100 changes less 80", 20, x::undoable);
        due("undo the hundredth", 99, x::undo);
        due("room for one", 99, x::addText);
        due("and no more", ISE, x::addText);
        Twins.refused("addText to a hundred", ISE, Twins::full, WordFinder::addText);
    }

    /** "A new text gets the least number that no text has." */
    private static void leastFreeNumber() {
        WordFinder x = new WordFinder();
        for (int i = 0; i < 100; i++) {
            x.addText();
        }
        int[] gone = {99, 64, 0, 63, 1, 98, 65};
        for (int text : gone) {
            x.removeText(text);
        }
        for (int want : new int[] {0, 1, 63, 64, 65, 98, 99}) {
            due("least free number", want, x::addText);
        }
        x.removeText(50);
        x.removeText(7);
        due("undo of a removal", 7, x::undo);
        due("takes its number again", 50, x::addText);
        due("full", ISE, x::addText);
        due("undo of an addition", 50, x::undo);
        due("frees its number", 50, x::addText);
    }

    /** "The maximal runs of letters a to z and A to Z; all other bytes just separate words": each byte from 1 to 255. */
    private static void bytesOnTheTape() {
        for (int i = 1; i < 256; i++) {
            char sign = (char) i;
            boolean isLetter = sign >= 'a' && sign <= 'z' || sign >= 'A' && sign <= 'Z';
            String small = isLetter ? "" + Character.toLowerCase(sign) : "";
            WordFinder x = Checks.with("x" + sign + "y", "" + sign, sign + "x", "x" + sign);
            due("between, byte " + i, isLetter ? "x" + small + "y" : "x y", () -> Checks.text(x, 0));
            due("alone, byte " + i, small, () -> Checks.text(x, 1));
            due("ahead, byte " + i, small + "x", () -> Checks.text(x, 2));
            due("behind, byte " + i, "x" + small, () -> Checks.text(x, 3));
        }
        due("a byte of 0 is not there", "xy", () -> {
            WordFinder x = new WordFinder();
            x.append('x' << 24, 'y', 0, 0, 0);
            return Checks.text(x, x.addText());
        });
    }

    /** A text that addText() and replaceText() read, or at which position they find its error. */
    private static void readsText(String text, int error) {
        WordFinder x = Checks.with("cat");
        due("add " + text, error < 0 ? 1 : IAE, () -> {
            Checks.feed(x, text);
            return x.addText();
        });
        due("error of " + text, error, x::errorPosition);
        due("tape after " + text, 0, x::clearTape);
        due("texts after " + text, error < 0 ? 2 : 1, x::texts);
        due("replace by " + text, error < 0 ? 1 : IAE, () -> {
            Checks.feed(x, text);
            return x.replaceText(0);
        });
        due("error of replacing " + text, error, x::errorPosition);
        due("tape after replacing " + text, 0, x::clearTape);
        due("had the word, by " + text, error < 0 ? 0 : 1, () -> x.textsWith(CAT));
        due("changes after " + text, error < 0 ? 3 : 1, x::undoable);
    }

    /** "A run of more than 6 letters is an error, at its first byte." */
    private static void sixLetters() {
        readsText("abcdef", -1);
        readsText("abcdefg", 0);
        readsText("ABCDEF", -1);
        readsText("ABCDEFG", 0);
        readsText("aBcDeF gHiJkL", -1);
        readsText("aBcDeF gHiJkLm", 7);
        readsText("zzzzzz", -1);
        readsText("zzzzzzz", 0);
        readsText(" \n-abcdef-", -1);
        readsText(" \n-abcdefg-", 3);
        readsText("abcdef1abcdef", -1);
        readsText("abcdef1abcdefa", 7);
        readsText(Checks.repeat("z", 300), 0);
        readsText(Checks.repeat(" ", 294) + "zzzzzz", -1);
        readsText(Checks.repeat(" ", 293) + "zzzzzzz", 293);
        readsText(Checks.repeat("zzzzzz ", 40), -1);
        readsText("", -1);
        readsText(Checks.repeat(" ", 300), -1);
    }

    /** "The 41st word is an error, at its first byte." */
    private static void fortyWords() {
        readsText(aTimes(39) + "b", -1);
        readsText(aTimes(40), -1);
        readsText(aTimes(40) + "b", 80);
        readsText(aTimes(40) + "  \n b", 84);
        readsText(aTimes(40) + "bbbbbb", 80);
        readsText(aTimes(40) + "1234567890", -1);
        readsText(aTimes(150), 80);
        readsText(Checks.repeat("abcdef ", 40) + "g", 280);
        readsText(Checks.repeat("abcdef ", 40) + Checks.repeat(" ", 19) + "g", 299);
        readsText(Checks.repeat("abcdef ", 40) + Checks.repeat(" ", 20), -1);
        WordFinder x = Checks.with(aTimes(39) + "b");
        due("the 40th word", B, () -> x.wordAt(0, 39));
    }

    /** "Of several errors the first one counts." */
    private static void firstOfSeveralErrors() {
        readsText("abcdefg hijklmno", 0);
        readsText("x abcdefgh " + aTimes(40), 2);
        readsText(aTimes(39) + "abcdefg b", 78);
        readsText(aTimes(40) + "abcdefg", 80);
        readsText(aTimes(40) + "b abcdefg", 80);
        readsText(aTimes(40) + "b c d", 80);
    }

    // ---- 2. The index.

    /** "The words of the index are the words that some text has": from the first place on, to the last one. */
    private static void wordsOfTheIndex() {
        WordFinder x = Checks.with("cat cat", "cat");
        due("a word", 1, x::words);
        due("take one of two places", CAT, () -> x.takeWord(0, 0));
        due("both texts have it", 2, () -> x.textsWith(CAT));
        due("take the last place", CAT, () -> x.takeWord(0, 0));
        due("one text has it", 1, () -> x.textsWith(CAT));
        due("it is in the index", CAT, x::firstWord);
        due("set the last place", CAT, () -> x.setWord(1, 0, DOG));
        due("no text has it", 0, () -> x.textsWith(CAT));
        due("only the new one is there", "1 " + DOG + " " + DOG, () -> x.words() + " " + x.firstWord() + " " + x.lastWord());
        due("remove the last text with it", 1, () -> x.removeText(1));
        due("no words", 0, x::words);
        due("no first word", NSEE, x::firstWord);
        due("no last word", NSEE, x::lastWord);
        due("undo", 1, x::undo);
        due("there again", DOG, x::firstWord);
        due("replace", 1, () -> x.replaceText(1));
        due("gone by replacing", 0, x::words);
        due("put", 1, () -> x.putWord(1, 0, CAT));
        due("there by putting", 1, () -> x.textsWith(CAT));
        due("undo of putting", 1, x::undo);
        due("gone by undoing", 0, () -> x.textsWith(CAT));
        due("as many errors as ever", 0, x::errors);
    }

    /** A hundred texts with a word: the numbers at the ends and at the 64th, where a row of 64 bits ends. */
    private static void textsOfAWord() {
        WordFinder x = new WordFinder();
        int[] with = {0, 1, 31, 32, 62, 63, 64, 65, 98, 99};
        for (int i = 0; i < 100; i++) {
            x.addText();
        }
        for (int text : with) {
            x.putWord(text, 0, CAT);
        }
        for (int i = 0, next = 0; i < 100; i++) {
            int text = i;
            boolean isWithin = with[next] == i;
            int want = with[next];
            due("next with, from " + i, want, () -> x.nextWith(CAT, text));
            due("is in " + i, isWithin, () -> x.isIn(CAT, text));
            next += isWithin && i < 99 ? 1 : 0;
        }
        for (int far : new int[] {100, 127, 128, 163, Integer.MAX_VALUE}) {
            due("next with, from " + far, -1, () -> x.nextWith(CAT, far));
            due("is in " + far, false, () -> x.isIn(CAT, far));
        }
        due("texts with", 10, () -> x.textsWith(CAT));
        due("found", 10, () -> Checks.ask(x, "cat"));
        due("the last found", 99, () -> x.foundAt(9));
        due("others found", 90, () -> Checks.ask(x, "!cat"));
    }

    /** A hundred texts lose a word, one by one, and a kept query follows them: none of them is taken for another one. */
    private static void textsThatLoseAWord() {
        WordFinder x = new WordFinder();
        for (int i = 0; i < 100; i++) {
            x.addText();
            x.putWord(i, 0, CAT);
        }
        Checks.keep(x, 0, "cat");
        int[] losing = {64, 0, 63, 99, 65, 1, 62, 98, 32, 31};
        for (int i = 0; i < losing.length; i++) {
            int event = i;
            int text = losing[i];
            x.takeWord(text, 0);
            due("in as many", 99 - event, () -> x.textsWith(CAT));
            due("the latest event", "0 " + text + " 0",
                () -> x.eventOf(event, 0) + " " + x.eventOf(event, 1) + " " + x.eventOf(event, 2));
            for (int j = 0; j < losing.length; j++) {
                int other = losing[j];
                due("in " + other + " behind " + text, j > i, () -> x.isIn(CAT, other));
            }
        }
        due("ten events", 10, x::events);
        due("no errors", 0, x::errors);
        due("undo", 31, x::undo);
        due("in it again", true, () -> x.isIn(CAT, 31));
        due("an event more", 11, x::events);
        due("found anew", 91, () -> x.askKept(0));
    }

    /** A great index: two thousand unlike words, the first and the last of them. */
    private static void twoThousandWords() {
        WordFinder x = new WordFinder();
        for (int i = 0; i < 50; i++) {
            StringBuilder text = new StringBuilder();
            for (int j = 0; j < 40; j++) {
                int number = 40 * i + j;
                text.append((char) ('a' + number / 676)).append((char) ('a' + number / 26 % 26))
                    .append((char) ('a' + number % 26)).append(' ');
            }
            Checks.feed(x, text.toString());
            x.addText();
        }
        int last = Checks.word("cyx");
        due("two thousand", 2000, x::words);
        due("the first", "aaa", () -> Checks.letters(x.firstWord()));
        due("the last", last, x::lastWord);
        due("the last by its place", last, () -> x.indexWord(1999));
        due("no more", IOOBE, () -> x.indexWord(2000));
        due("the last by its rank", last, () -> x.frequent(1999));
        due("no more ranks", IOOBE, () -> x.frequent(2000));
        due("between all", 1999, () -> x.between(Checks.word("aaa"), last));
        due("begin with a letter", 676, () -> x.beginning(Checks.word("b")));
        due("begin with the last letter", 648, () -> x.beginning(Checks.word("c")));
        due("neighbours", 25 + 25 + 2, () -> x.neighbours(Checks.word("aaa")));
        due("found by a letter", 18, () -> Checks.ask(x, "b*"));
        due("no errors", 0, x::errors);
        due("one less", 40, () -> x.removeText(49));
        due("then", 1960, x::words);
    }

    /** Promises 30 and 31 where a word is in all hundred texts, and another one in all but one. */
    private static void wordsOfAHundredTexts() {
        WordFinder x = new WordFinder();
        for (int i = 0; i < 100; i++) {
            x.addText();
            x.putWord(i, 0, DOG);
            if (i > 0) {
                x.putWord(i, 0, CAT);
            }
        }
        for (int i = 0; i < 3; i++) {
            due("in a hundred", DOG, () -> x.frequent(0));
            due("in ninety-nine", CAT, () -> x.frequent(1));
            due("no more", IOOBE, () -> x.frequent(2));
        }
        due("together in ninety-nine", 99, () -> x.together(CAT, DOG));
        due("with itself in a hundred", 100, () -> x.together(DOG, DOG));
        due("companions", CAT + " " + DOG, () -> x.companion(DOG) + " " + x.companion(CAT));
        x.putWord(0, 0, CAT);
        due("both in a hundred, the first one of a dictionary", CAT, () -> x.frequent(0));
        due("then the other one", DOG, () -> x.frequent(1));
        due("together in a hundred", 100, () -> x.together(CAT, DOG));
        x.takeWord(64, 1);
        due("one less", "99 " + CAT, () -> x.together(CAT, DOG) + " " + x.frequent(0));
    }

    /** As many places as can be: a hundred texts of forty words. */
    private static void placesOfAWord() {
        WordFinder x = new WordFinder();
        for (int i = 0; i < 100; i++) {
            Checks.feed(x, aTimes(i < 99 ? 40 : 39));
            x.addText();
        }
        due("3999 places", 3999, () -> x.places(A));
        x.putWord(99, 39, A);
        due("4000 places", 4000, () -> x.places(A));
        due("mean of full texts", 40.0, x::meanLength);
        due("share of full texts", 1.0f, () -> x.share(A));
        due("the last place", 39, () -> x.placeIn(A, 99, 39));
        due("no place 40", -1, () -> x.placeIn(A, 99, 40));
        due("no errors", 0, x::errors);
    }

    // ---- 5. Words that are alike, texts that are alike.

    /** All words of a and b of 1 to 6 letters, held against what their letters tell. */
    private static void neighboursOfAllShortWords() {
        List<String> words = new ArrayList<>(List.of("a", "b"));
        for (int i = 0; words.get(i).length() < 6; i++) {
            words.add(words.get(i) + "a");
            words.add(words.get(i) + "b");
        }
        words.removeIf(word -> word.equals("abab") || word.equals("b"));
        List<String> asked = new ArrayList<>(words);
        asked.addAll(List.of("abab", "b", "c", "z", "ca", "bz", "zabab", "ababz", "abzabz", "ccc"));
        words.sort(null);
        for (String word : asked) {
            WordFinder x = new WordFinder();
            for (int i = 0; i < words.size(); i += 40) {
                Checks.feed(x, String.join(" ", words.subList(i, Math.min(i + 40, words.size()))));
                x.addText();
            }
            int count = 0;
            for (String other : words) {
                if (isNeighbour(word, other)) {
                    int at = count;
                    due("neighbour of " + word, other, () -> Checks.letters(x.neighbourAt(Checks.word(word), at)));
                    count++;
                }
            }
            int all = count;
            due("neighbours of " + word, all, () -> x.neighbours(Checks.word(word)));
            due("no more neighbours of " + word, -1, () -> x.neighbourAt(Checks.word(word), all));
            due("none below 0 of " + word, -1, () -> x.neighbourAt(Checks.word(word), -1));
        }
    }

    private static boolean isNeighbour(String word, String other) {
        if (word.length() == other.length()) {
            int unlike = 0;
            for (int i = 0; i < word.length(); i++) {
                unlike += word.charAt(i) == other.charAt(i) ? 0 : 1;
            }
            return unlike == 1;
        }
        String longer = word.length() > other.length() ? word : other;
        String shorter = word.length() > other.length() ? other : word;
        boolean isWithin = false;
        for (int i = 0; i < longer.length() && longer.length() == shorter.length() + 1; i++) {
            isWithin |= (longer.substring(0, i) + longer.substring(i + 1)).equals(shorter);
        }
        return isWithin;
    }

    /** "By changing one letter into another one, by putting in one letter, or by leaving out one." */
    private static void neighboursAtTheLimits() {
        due("not itself", 0, () -> Checks.with("cat").neighbours(CAT));
        due("two letters changed", 0, () -> Checks.with("cbb").neighbours(CAT));
        due("two letters more", 0, () -> Checks.with("cater").neighbours(CAT));
        due("two letters less", 0, () -> Checks.with("c a t").neighbours(CAT));
        due("letters that change places", 0, () -> Checks.with("act cta tac").neighbours(CAT));
        due("of one letter, by leaving out", 1, () -> Checks.with("a").neighbours(Checks.word("ba")));
        due("of one letter, by putting in", 2, () -> Checks.with("ba ab bb").neighbours(A));
        due("every letter, from a to z", 2, () -> Checks.with("aat zat").neighbours(CAT));
        due("six letters, changed", 3, () -> Checks.with("zbcdef abzdef abcdez").neighbours(Checks.word("abcdef")));
        due("six letters, left out", 3, () -> Checks.with("bcdef abdef abcde").neighbours(Checks.word("abcdef")));
        due("five letters, put in", 3, () -> Checks.with("zabcde abzcde abcdez").neighbours(Checks.word("abcde")));
        due("an empty index", 0, () -> new WordFinder().neighbours(CAT));
    }

    /** "In the most texts; of several the first one in the order of a dictionary; there is none if .." */
    private static void companions() {
        WordFinder x = Checks.with("b c", "b a", "b z", "b z", "b a");
        due("of two with as many", A, () -> x.companion(B));
        x.setWord(0, 1, Checks.word("z"));
        due("one more", 26, () -> x.companion(B));
        x.undo();
        x.takeWord(1, 1);
        due("one less", 26, () -> x.companion(B));
        due("one text is enough", B, () -> x.companion(3));
        due("twice in one text is once", 3, () -> Checks.with("b d d d", "b c", "c b").companion(B));
        due("alone", -1, () -> Checks.with("b b", "c").companion(B));
        due("no text has it", -1, () -> x.companion(DOG));
        due("an empty index", -1, () -> new WordFinder().companion(B));
        due("ahead of its first letter", Checks.word("bz"), () -> Checks.with("c bz d").companion(3));
    }

    /** "The unlike words that both have", from none to forty. */
    private static void commonWords() {
        StringBuilder forty = new StringBuilder();
        for (int i = 0; i < 40; i++) {
            forty.append((char) ('a' + i % 26)).append(i < 26 ? "" : "x").append(' ');
        }
        String lastOther = forty.substring(0, forty.length() - 3) + "q";
        WordFinder x = Checks.with(forty.toString(), forty.toString(), lastOther, "", aTimes(40), "zz", "");
        due("forty unlike words", 40, () -> x.unlike(0));
        due("all in common", 40, () -> x.common(0, 1));
        due("thirty-nine unlike words", 39, () -> x.unlike(2));
        due("all but one", 39, () -> x.common(0, 2));
        due("forty times one word", 1, () -> x.unlike(4));
        due("one in common", 1, () -> x.common(4, 0));
        due("and the other way", 1, () -> x.common(0, 4));
        due("none in common", 0, () -> x.common(5, 0));
        due("without words", 0, () -> x.unlike(3));
        due("both without words", 0, () -> x.common(3, 6));
        due("itself without words", 0, () -> x.common(3, 3));
    }

    /** "Compared as fractions (0 if both have no words); of several the one with the least number." */
    private static void nearestTexts() {
        due("no other text", -1, () -> Checks.with("a").nearest(0));
        due("two of them", 1, () -> Checks.with("a", "b").nearest(0));
        due("both without words", 0, () -> Checks.with("", "").nearest(1));
        due("without words, three of them", 1, () -> Checks.with("", "", "").nearest(0));
        due("0 of both is no more than 0", 1, () -> Checks.with("", "a", "").nearest(0));
        due("0 of both is no less than 0", 1, () -> Checks.with("", "", "a").nearest(0));
        due("1/1 and 1/1", 1, () -> Checks.with("a", "a", "a").nearest(0));
        due("1/1 and 1/2", 1, () -> Checks.with("a", "a", "a b").nearest(0));
        due("1/2 and 1/1", 2, () -> Checks.with("a", "a b", "a a a").nearest(0));
        due("1/3 and 2/6", 1, () -> Checks.with("a b", "a c", "a b c d e f").nearest(0));
        due("2/6 and 1/3", 1, () -> Checks.with("a b", "a b c d e f", "a c").nearest(0));
        due("1/3 and 2/5", 2, () -> Checks.with("a b", "a c", "a b c d e").nearest(0));
        due("2/7 and 1/3", 2, () -> Checks.with("a b", "a b c d e f g", "a c").nearest(0));
        due("more in common, a lesser share", 2, () -> Checks.with("a b c", "a b d e f g", "c").nearest(0));
        due("as often as it stands does not count", 1, () -> Checks.with("a b", "a", "a a a a c").nearest(0));
        String many = "a b c d e f g h i j k l m n o p q r s t";
        due("20/39 and 20/40", 2, () -> Checks.with(many, many + " aa ab ac ad ae af ag ah ai aj ak al am an ao ap aq "
            + "ar as at", many + " aa ab ac ad ae af ag ah ai aj ak al am an ao ap aq ar as").nearest(0));
        WordFinder x = new WordFinder();
        for (int i = 0; i < 100; i++) {
            x.addText();
        }
        x.putWord(0, 0, A);
        x.putWord(99, 0, A);
        due("the last of a hundred", 99, () -> x.nearest(0));
        due("and the first of them", 0, () -> x.nearest(99));
        x.removeText(99);
        due("one that is not there", 1, () -> x.nearest(0));
    }

    // ---- 6. Undo.

    /** "The latest 20 can be undone, the latest first": 19, 20 and 21 changes behind a text. */
    private static void changesThatCanBeUndone() {
        for (int changes = 0; changes <= 45; changes++) {
            WordFinder x = Checks.with("a");
            for (int i = 1; i <= changes; i++) {
                x.setWord(0, 0, 27 + 1 + i % 26);
            }
            int can = Math.min(changes + 1, 20);
            due("undoable behind " + changes, can, x::undoable);
            for (int i = 0; i < can; i++) {
                int left = can - i;
                due("left", left, x::undoable);
                due("undone", 0, x::undo);
            }
            String last = Checks.letters(27 + 1 + (changes - 20) % 26);
            due("no more than 20", -1, x::undo);
            due("none left", 0, x::undoable);
            due("as it was", changes < 20 ? IOOBE : changes == 20 ? "a" : last, () -> Checks.text(x, 0));
        }
    }

    /** "One that once was older than 20 such cannot be undone any more, also when later ones were undone." */
    private static void onceOlderThanTwenty() {
        for (int back = 0; back <= 20; back++) {
            WordFinder x = Checks.with("");
            for (int i = 1; i <= 21; i++) {
                x.putWord(0, 0, A);
            }
            for (int i = 0; i < back; i++) {
                x.undo();
            }
            int left = 20 - back;
            due("left", left, x::undoable);
            x.putWord(0, 0, B);
            int more = Math.min(left + 1, 20);
            due("one more", more, x::undoable);
            for (int i = 0; i < more; i++) {
                due("undone", 0, x::undo);
            }
            due("no older one", -1, x::undo);
            int words = back == 0 ? 2 : 1;
            due("the first word stays", words, () -> x.length(0));
        }
        for (int changes = 19; changes <= 21; changes++) {
            WordFinder x = Checks.with("");
            for (int i = 1; i < changes; i++) {
                x.putWord(0, 0, A);
            }
            x.putWord(0, 0, B);
            due("the latest is undone", 0, x::undo);
            int left = changes < 20 ? changes : 19;
            due("it made the oldest one too old", left, x::undoable);
        }
    }

    /** "Of the changes, without those that were made by undo()": what is no change at all. */
    private static void whatIsNoChange() {
        WordFinder x = Checks.with("a");
        x.setWord(0, 0, B);
        x.undo();
        due("undo is no change", 1, x::undoable);
        Checks.keep(x, 0, "a");
        x.keepNot(1, 0);
        x.drop(0);
        Checks.ask(x, "a");
        x.askKept(1);
        x.write(1);
        x.compare(1, 1);
        Checks.feed(x, "abc");
        x.clearTape();
        due("nor are these", 1, x::undoable);
        for (int i = 0; i < 25; i++) {
            Checks.outcome(() -> x.setWord(0, 1, A));
            Checks.outcome(() -> x.putWord(0, 0, 0));
            Checks.feed(x, "toolong");
            Checks.outcome(x::addText);
        }
        due("nor are refused calls", 1, x::undoable);
        due("the text was added", 0, x::undo);
        due("there is nothing else", -1, x::undo);
        Twins.answered("undo of nothing", -1, () -> {
            WordFinder y = Twins.busy();
            while (y.undoable() > 0) {
                y.undo();
            }
            return y;
        }, WordFinder::undo);
        due("the same words are a change", 2, () -> {
            WordFinder y = Checks.with("a");
            y.setWord(0, 0, A);
            return y.undoable();
        });
        due("a text put in place of the same one, too", 2, () -> {
            WordFinder y = Checks.with("a");
            Checks.feed(y, "a");
            y.replaceText(0);
            return y.undoable();
        });
    }

    /** "The text is then as it was ahead of the change (or not there)", behind each kind of change. */
    private static void whatUndoBringsBack() {
        undone("removeText", "cat dog", x -> x.removeText(1), IOOBE);
        undone("replaceText", "cat dog", x -> x.replaceText(1), "");
        undone("putWord", "cat dog", x -> x.putWord(1, 2, A), "cat dog a");
        undone("takeWord", "cat dog", x -> x.takeWord(1, 0), "dog");
        undone("setWord", "cat dog", x -> x.setWord(1, 1, A), "cat a");
        undone("replaceText of none", "", x -> x.replaceText(1), "");
        undone("putWord in none", "", x -> x.putWord(1, 0, A), "a");
        undone("putWord as 40th", aTimes(39).trim(), x -> x.putWord(1, 0, A), aTimes(40).trim());
        undone("takeWord of 40", aTimes(40).trim(), x -> x.takeWord(1, 39), aTimes(39).trim());
        WordFinder x = Checks.with("a", "b");
        due("undo of adding", 1, x::undo);
        due("not there", IOOBE, () -> x.length(1));
        due("the other one is", 0, () -> x.nextText(0));
        due("undo of adding the first", 0, x::undo);
        due("none there", -1, () -> x.nextText(0));
    }

    private static void undone(String what, String text, java.util.function.Consumer<WordFinder> change, String then) {
        WordFinder x = Checks.with("bird", text);
        change.accept(x);
        due(what, then, () -> Checks.text(x, 1));
        due(what + " undone", 1, x::undo);
        due(what + " as it was", text, () -> Checks.text(x, 1));
        due(what + " index as it was", 0, () -> x.textsWith(A) - (text.contains("a ") ? 1 : 0));
        due(what + " no errors", 0, x::errors);
        due(what + " other text", "bird", () -> Checks.text(x, 0));
    }
}
