import java.util.List;
import java.util.Map;

/** Sections 3 and 4 of the document: each sentence that names a boundary, just inside it and just outside it. */
public final class QueriesBoundaryTest {
    private static final String ISE = "throws IllegalStateException";
    private static final String IAE = "throws IllegalArgumentException";
    private static final String NSEE = "throws NoSuchElementException";

    private static final int A = 1;
    private static final int B = 2;
    private static final int CAT = Checks.word("cat");

    public static void main(String[] args) {
        bytesOfAQuery();
        lettersOfAWord();
        valuesOfANumber();
        whereTokensFit();
        textEndsTooEarly();
        eightOpen();
        openUntilRead();
        twentyWords();
        hasTheWord();
        beginsWithTheLetters();
        distances();
        distancesOfOneWord();
        rowsOfWords();
        notAndOr();
        meetings();
        evenNumberOfNots();
        ranksOfEqualScores();
        sixPlaces();
        kindsOfChange();
        orderOfEvents();
        hundredEvents();
        foundAheadOfTheChange();
        negations();
        brackets();
        tenUnlikeWords();
        onlyWords();
        leastTexts();
        Checks.end("QueriesBoundaryTest");
    }

    private static void due(String what, Object want, Checks.Call call) {
        Checks.due(what, want, call);
    }

    private static void reads(String query, int error) {
        Checks.reads(query, error);
    }

    private static String repeat(String part, int times) {
        return Checks.repeat(part, times);
    }

    // ---- 3. Queries: the grammar and its tokens.

    /** "The bytes 32 and 10 may stand ahead of, between and behind tokens. Everything else is no token": each byte. */
    private static void bytesOfAQuery() {
        for (int i = 1; i < 256; i++) {
            char sign = (char) i;
            boolean isBlank = sign == ' ' || sign == '\n';
            boolean isLetter = sign >= 'a' && sign <= 'z';
            boolean isOpening = sign == '(' || sign == '[';
            boolean isJoining = sign == '&' || sign == '|';
            reads(sign + "a", isBlank || isLetter || sign == '!' ? -1 : isOpening ? 2 : 0);
            reads("a" + sign, isBlank || isLetter || sign == '*' ? -1 : isJoining || sign == '~' ? 2 : 1);
            boolean isLate = isBlank || sign == '*' || sign == '~';
            reads("a" + sign + "b", isLetter || isJoining ? -1 : isLate ? 2 : 1);
            reads("a&" + sign + "b", isBlank || isLetter || sign == '!' ? -1 : isOpening ? 4 : 2);
            reads("a~" + sign + "b", sign >= '1' && sign <= '9' ? -1 : isBlank ? 3 : 2);
            reads("[a" + sign + "b]", isBlank || isLetter ? -1 : sign == ']' ? 3 : 2);
        }
        reads(" \n a \n & \n b \n ", -1);
        reads("\n[\na\nb\n]\n|\n!\n(\na\n~\n5\nb\n)\n", -1);
        reads("a  *", -1);
        reads("a\t&b", 1);
        reads("a\r\n&b", 1);
        reads("a&" + (char) 160 + "b", 2);
    }

    /** "WORD is a maximal run of 1 to 6 letters a to z": six and seven, at each place of the grammar. */
    private static void lettersOfAWord() {
        for (String ahead : List.of("", " ", "a|", "a&", "!", "(", "a~1", "[", "[a ")) {
            String behind = ahead.equals("(") ? ")" : ahead.startsWith("[") ? "]" : "";
            reads(ahead + "z" + behind, -1);
            reads(ahead + "abcdef" + behind, -1);
            reads(ahead + "zzzzzz" + behind, -1);
            reads(ahead + "abcdefg" + behind, ahead.length());
            reads(ahead + repeat("z", 100) + behind, ahead.length());
            reads(ahead + "A" + behind, ahead.length());
            reads(ahead + "aA" + behind, ahead.length() + 1);
        }
        reads("abcdef*", -1);
        reads("abcdefg*", 0);
        reads("abcdef~1b", -1);
        reads("abcdefg~1b", 0);
        reads("abcdef abcdefg", 7);
        reads(repeat("z", 300), 0);
    }

    /** "NUMBER is a maximal run of 1 or 2 digits, of a value from 1 to 40 (a 0 ahead .. is not written)." */
    private static void valuesOfANumber() {
        for (int value = 0; value <= 120; value++) {
            boolean isNumber = value >= 1 && value <= 40;
            reads("a~" + value + "b", isNumber ? -1 : 2);
            reads("a ~ " + (value < 10 ? "0" : "") + value + " b", isNumber ? -1 : 4);
            reads("a~0" + (value < 10 ? "0" : "") + value + "b", 2);
            reads("" + value, 0);
            reads("a " + value, 2);
        }
        for (String wrong : List.of("000", "001", "0001", "040", "400", "4294967297", "18446744073709551617",
            repeat("0", 200) + "1", repeat("9", 290))) {
            reads("a~" + wrong + "b", 2);
        }
        reads("a~4 0b", 4);
        reads("a~-1b", 2);
        reads("a~+1b", 2);
        WordFinder x = new WordFinder();
        for (String number : List.of("1", "01", "9", "09", "10", "40")) {
            Checks.keep(x, 0, "a~" + number + "b");
            String written = "a~" + Integer.parseInt(number) + "b";
            due("written " + number, written, () -> Checks.written(x, 0));
        }
    }

    /** "Reading stops at the first token that does not fit: .. the grammar does not allow it there." */
    private static void whereTokensFit() {
        String[] tokens = {"a", "5", "|", "&", "!", "(", ")", "*", "~", "[", "]", "#"};
        Map<String, String> fitting = Map.ofEntries(Map.entry("", "a!(["), Map.entry("a", "|&*~"),
            Map.entry("a*", "|&"), Map.entry("a~", "5"), Map.entry("a~5", "a"), Map.entry("a~5 a", "|&"),
            Map.entry("[", "a"), Map.entry("[a", "a]"), Map.entry("[a]", "|&"), Map.entry("!", "a!(["),
            Map.entry("!a", "|&*~"), Map.entry("(", "a!(["), Map.entry("(a", "|&*~)"), Map.entry("(a)", "|&"),
            Map.entry("a|", "a!(["), Map.entry("a&", "a!(["), Map.entry("(a*", "|&)"), Map.entry("([a]", "|&)"),
            Map.entry("!(a", "|&*~)"), Map.entry("((a)", "|&)"));
        for (Map.Entry<String, String> start : fitting.entrySet()) {
            for (String token : tokens) {
                // A wrong sign behind tells whether the token fits: then the error is there and not at the token.
                String ahead = start.getKey() + " ";
                boolean fits = start.getValue().contains(token);
                reads(ahead + token + " #", fits ? ahead.length() + 2 : ahead.length());
            }
        }
        reads("a # b #", 2);
        reads("a b abcdefg", 2);
        reads("# (", 0);
    }

    /** "Or the length of the text if the text ends too early." */
    private static void textEndsTooEarly() {
        for (String early : List.of("", "!", "(", "[", "a|", "a&", "a~", "a~5", "[a", "(a", "!(a", "((a)", "(a|", "a*&")) {
            reads(early, early.length());
            reads(early + " ", early.length() + 1);
            reads(early + "\n  \n", early.length() + 4);
            reads(early + repeat(" ", 300 - early.length()), 300);
            reads(repeat(" ", 300 - early.length()) + early, 300);
        }
        reads(repeat(" ", 299) + "a", -1);
        reads("a" + repeat(" ", 299), -1);
        reads(repeat(" ", 299) + "&", 299);
        reads("a" + repeat(" ", 298) + "b", 299);
    }

    /** "A "(" or "!" while 8 of both together are open": every row of eight, and with a ninth. */
    private static void eightOpen() {
        for (int mask = 0; mask < 256; mask++) {
            StringBuilder open = new StringBuilder();
            for (int i = 0; i < 8; i++) {
                open.append((mask >> i & 1) != 0 ? '(' : '!');
            }
            String close = repeat(")", Integer.bitCount(mask));
            reads(open + "a" + close, -1);
            reads(open + "(a)" + close, 8);
            reads(open + "!a" + close, 8);
            reads("a&" + open + "a" + close, -1);
            reads("a&" + open + "!a" + close, 10);
        }
    }

    /** "A "!" until its plain is read", and a "(" until its ")": what is closed counts no more. */
    private static void openUntilRead() {
        String eightNots = repeat("!", 8);
        String eightOpen = repeat("(", 8);
        String eightClosed = repeat(")", 8);
        reads(eightNots + "a&" + eightNots + "b|" + eightNots + "c", -1);
        reads(eightNots + "a*&" + eightNots + "a~1b|" + eightNots + "[c]", -1);
        reads(eightNots + "a&" + eightNots + "!b", 18);
        reads(eightOpen + "a" + eightClosed + "|" + eightOpen + "a" + eightClosed, -1);
        reads(eightOpen + "a" + eightClosed + "|" + eightOpen + "(a)" + eightClosed, 26);
        reads(repeat("(", 7) + "!a&!b|!c" + repeat(")", 7), -1);
        reads(repeat("(", 7) + "!a&!!b" + repeat(")", 7), 11);
        reads(repeat("(", 7) + "!a&!(b)" + repeat(")", 7), 11);
        reads(repeat("(", 7) + "(a)&(b)|!c" + repeat(")", 7), -1);
        reads(repeat("!", 7) + "(a)&" + eightNots + "b", -1);
        reads(repeat("(!", 4) + "a)&!!!b" + repeat(")", 3), -1);
        reads(repeat("(!", 4) + "a)&!!!!b" + repeat(")", 3), 14);
        reads(eightOpen + "a)&!b" + repeat(")", 7), -1);
        reads(eightOpen + "a&!b" + eightClosed, 10);
        reads(eightOpen + "a)&!!b" + repeat(")", 7), 12);
    }

    /** "Or a WORD that is the 21st of the query": the 20th and the 21st, at each place of the grammar. */
    private static void twentyWords() {
        String nineteen = "a" + repeat("|a", 18);
        for (String last : List.of("|b", "&b", "|b*", "&!b", "|(b)", "|[b]", "|!!(b)")) {
            int at = last.indexOf('b');
            reads(nineteen + last, -1);
            reads(nineteen + "|a" + last, nineteen.length() + 2 + at);
        }
        String eighteen = "a" + repeat("&a", 17);
        reads(eighteen + "&b~1c", -1);
        reads(nineteen + "&b~1c", nineteen.length() + 4);
        reads(nineteen + "|a&b~1c", nineteen.length() + 3);
        reads(eighteen + "&[b c]", -1);
        reads(nineteen + "&[b c]", nineteen.length() + 4);
        reads("[" + repeat("a ", 19) + "b]", -1);
        reads("[" + repeat("a ", 20) + "b]", 41);
        reads("[" + repeat("a ", 19) + "b]&c", 42);
        reads("a~1b" + repeat("&a~1b", 9), -1);
        reads("a~1b" + repeat("&a~1b", 9) + "&c", 50);
        reads("a*" + repeat("|a*", 19), -1);
        reads("a*" + repeat("|a*", 19) + "|a*", 60);
        reads(nineteen + "|a b", nineteen.length() + 3);
        reads(nineteen + "|a|", nineteen.length() + 3);
        reads(nineteen + "|a|#", nineteen.length() + 3);
        reads(repeat("abcdef|", 19) + "abcdef", -1);
        reads(repeat("abcdef|", 19) + "abcdef|abcdef", 140);
    }

    // ---- 3. Queries: what satisfies them.

    /** The texts that are found, and NONE behind them. */
    private static void finds(WordFinder x, String query, String found) {
        due("found for " + query, found, () -> {
            Checks.feed(x, query);
            int count = x.ask();
            StringBuilder all = new StringBuilder();
            for (int i = 0; i < count; i++) {
                all.append(i == 0 ? "" : " ").append(x.foundAt(i));
            }
            return all.append(x.foundAt(count) == -1 && x.rankAt(count) == -1 ? "" : " and more").toString();
        });
    }

    /** The score of a text, or that it is not found. */
    private static void scores(WordFinder x, String query, int text, Object score) {
        due("score for " + query + " of " + text, score, () -> {
            Checks.feed(x, query);
            int count = x.ask();
            for (int i = 0; i < count; i++) {
                if (x.rankAt(i) == text) {
                    return x.scoreAt(i);
                }
            }
            return "not found";
        });
    }

    /** "A text satisfies WORD if it has this word", at its first place, at its last one, or nowhere. */
    private static void hasTheWord() {
        WordFinder x = Checks.with("cat " + repeat("a ", 39), repeat("a ", 39) + "cat", repeat("a ", 40), "cats ca", "");
        finds(x, "cat", "0 1");
        finds(x, "!cat", "2 3 4");
        finds(x, "a", "0 1 2");
        finds(x, "cats", "3");
        finds(x, "at", "");
        finds(new WordFinder(), "cat", "");
        finds(new WordFinder(), "!cat", "");
    }

    /** "Begins with these letters (the word itself, too)." */
    private static void beginsWithTheLetters() {
        WordFinder x = Checks.with("abc", "ab", "abcd", "abcdef", "b abd", "a cab", "abz abzzzz");
        finds(x, "abc*", "0 2 3");
        finds(x, "abcd*", "2 3");
        finds(x, "abcdef*", "3");
        finds(x, "abcdeg*", "");
        finds(x, "a*", "0 1 2 3 4 5 6");
        finds(x, "ab*", "0 1 2 3 4 6");
        finds(x, "c*", "5");
        finds(x, "abz*", "6");
        finds(x, "abzzzz*", "6");
        finds(x, "z*", "");
        scores(x, "abz*", 6, 2);
    }

    /** "These places differ by at most k, in whichever order": each k against each distance. */
    private static void distances() {
        for (int distance = 1; distance < 40; distance++) {
            String between = repeat("x ", distance - 1);
            WordFinder x = Checks.with("a " + between + "b", "b " + between + "a");
            for (int k = 1; k <= 40; k++) {
                finds(x, "a~" + k + "b", distance <= k ? "0 1" : "");
            }
            scores(x, "a~" + distance + "b", 0, 1);
            scores(x, "b~" + distance + "a", 0, 1);
            if (distance > 1) {
                finds(x, "a~" + (distance - 1) + "b", "");
            }
        }
    }

    /** "And the second one at another place (two places of one and the same word make two pairs)." */
    private static void distancesOfOneWord() {
        WordFinder x = Checks.with("a", "a a", "a b a", "a b b a", repeat("a ", 40));
        finds(x, "a~1a", "1 4");
        finds(x, "a~2a", "1 2 4");
        finds(x, "a~3a", "1 2 3 4");
        finds(x, "a~40a", "1 2 3 4");
        scores(x, "a~1a", 1, 2);
        scores(x, "a~2a", 2, 2);
        scores(x, "a~3a", 3, 2);
        scores(x, "a~1a", 4, 78);
        scores(x, "a~38a", 4, 40 * 39 - 2);
        scores(x, "a~39a", 4, 40 * 39);
        scores(x, "a~40a", 4, 40 * 39);
        scores(x, "a~40a" + repeat("|a~40a", 9), 4, 10 * 40 * 39);
        finds(x, "a~40b", "2 3");
        scores(x, "a~2b", 3, 4);
        scores(x, "a~1b", 3, 2);
    }

    /** "[ ] if it has these words one directly behind the other": at the first place, at the last one, and too long. */
    private static void rowsOfWords() {
        WordFinder x = Checks.with("a b c d", "b c d", "a b c", "a c b d", "d", "", "a b a b a");
        finds(x, "[a b c d]", "0");
        finds(x, "[a b c]", "0 2");
        finds(x, "[b c d]", "0 1");
        finds(x, "[c d]", "0 1");
        finds(x, "[d]", "0 1 3 4");
        finds(x, "[d a]", "");
        finds(x, "[a b c d d]", "");
        finds(x, "[d d]", "");
        finds(x, "[a c]", "3");
        scores(x, "[a b a]", 6, 2);
        scores(x, "[a b]", 6, 2);
        scores(x, "[a b a b a]", 6, 1);
        finds(x, "[a b a b a b]", "");
        WordFinder y = Checks.with(repeat("a ", 20), repeat("a ", 19), repeat("a ", 40), repeat("a ", 19) + "b");
        finds(y, "[" + repeat("a ", 20) + "]", "0 2");
        finds(y, "[" + repeat("a ", 19) + "]", "0 1 2 3");
        scores(y, "[" + repeat("a ", 20) + "]", 2, 21);
        scores(y, "[" + repeat("a ", 20) + "]", 0, 1);
    }

    /** "! is not, & is and, | is or", & ahead of |, on texts with all, some and no words. */
    private static void notAndOr() {
        WordFinder x = Checks.with("", "a", "b", "a b", "c", "a c", "b c", "a b c");
        finds(x, "a&b&c", "7");
        finds(x, "a|b|c", "1 2 3 4 5 6 7");
        finds(x, "!a&!b&!c", "0");
        finds(x, "!(a|b|c)", "0");
        finds(x, "!a|!b|!c", "0 1 2 3 4 5 6");
        finds(x, "a|b&c", "1 3 5 6 7");
        finds(x, "(a|b)&c", "5 6 7");
        finds(x, "!a&b", "2 6");
        finds(x, "!(a&b)", "0 1 2 4 5 6");
        finds(x, "a&!a", "");
        finds(x, "a|!a", "0 1 2 3 4 5 6 7");
        x.removeText(0);
        x.removeText(7);
        finds(x, "!a", "2 4 6");
        finds(x, "a|!a", "1 2 3 4 5 6");
    }

    /** "How often a text meets one", and "each part as often as it stands in the query". */
    private static void meetings() {
        WordFinder x = Checks.with(repeat("a ", 40), "ab a abc b a", "b");
        scores(x, "a", 0, 40);
        scores(x, "a" + repeat("|a", 19), 0, 800);
        scores(x, "a*", 0, 40);
        scores(x, "a*", 1, 4);
        scores(x, "ab*", 1, 2);
        scores(x, "a|a", 1, 4);
        scores(x, "a&a", 1, 4);
        scores(x, "a|q", 1, 2);
        scores(x, "a|b&!c", 2, 1);
        scores(x, "b|!b", 1, 1);
        scores(x, "!c", 2, 0);
        scores(x, "c", 2, "not found");
        scores(x, "a&!b", 1, "not found");
        scores(x, "a~1b", 1, 1);
        scores(x, "a~2b", 1, 2);
    }

    /** "That stands under an even number of "!"": from 0 to 8 of them, and through brackets. */
    private static void evenNumberOfNots() {
        WordFinder x = Checks.with("a a a", "b");
        for (int nots = 0; nots <= 8; nots++) {
            boolean isEven = nots % 2 == 0;
            scores(x, repeat("!", nots) + "a", 0, isEven ? (Object) 3 : "not found");
            scores(x, repeat("!", nots) + "a", 1, isEven ? "not found" : (Object) 0);
            scores(x, "(" + repeat("!", Math.max(nots - 1, 0)) + "a)|a", 0, nots == 0 || !isEven ? 6 : 3);
        }
        scores(x, "!(b|!a)", 0, 3);
        scores(x, "!(b|!(a&!b))", 0, 3);
        scores(x, "!(b&!(!a|b))", 0, 0);
        scores(x, "!!(a|b)", 0, 3);
        scores(x, "!(!(a))", 0, 3);
        scores(x, "!(!a&!b)", 1, 1);
    }

    /** "Of the same score the lesser number of a text comes first", among a hundred. */
    private static void ranksOfEqualScores() {
        WordFinder x = new WordFinder();
        for (int i = 0; i < 100; i++) {
            x.addText();
        }
        x.putWord(99, 0, A);
        x.putWord(50, 0, A);
        x.putWord(50, 0, A);
        x.putWord(49, 0, A);
        due("all are found", 100, () -> Checks.ask(x, "a|!a"));
        int[] first = {50, 49, 99};
        for (int i = 0; i < 100; i++) {
            int at = i;
            int number = i < 3 ? first[i] : i < 52 ? i - 3 : i - 1;
            due("found " + i, at, () -> x.foundAt(at));
            due("rank " + i, number, () -> x.rankAt(at));
            due("score " + i, i == 0 ? 2 : i < 3 ? 1 : 0, () -> x.scoreAt(at));
        }
        for (int none : new int[] {-1, 100, Integer.MIN_VALUE, Integer.MAX_VALUE}) {
            due("none found at " + none, "-1 -1 -1", () -> x.foundAt(none) + " " + x.rankAt(none) + " " + x.scoreAt(none));
        }
    }

    // ---- 4. Kept queries.

    /** "There are six places, 0 to 5." */
    private static void sixPlaces() {
        WordFinder x = Checks.with("a", "b");
        for (int i = 0; i < 6; i++) {
            int place = i;
            due("none at " + i, NSEE, () -> x.askKept(place));
            due("keep at " + i, 1, () -> Checks.keep(x, place, "a" + repeat("|a", place)));
        }
        for (int i = 0; i < 6; i++) {
            int place = i;
            due("its own at " + i, place + 1, () -> x.parts(place));
        }
        due("drop one", true, () -> x.drop(3));
        for (int i = 0; i < 6; i++) {
            int place = i;
            due("only one is gone, " + i, place == 3 ? NSEE : (Object) (place + 1), () -> x.parts(place));
        }
    }

    private static String event(WordFinder x, int event) {
        return x.eventOf(event, 0) + "/" + x.eventOf(event, 1) + "/" + x.eventOf(event, 2);
    }

    private static String eventsFrom(WordFinder x, int first) {
        StringBuilder all = new StringBuilder();
        for (int i = first; i < x.events(); i++) {
            all.append(i == first ? "" : " ").append(event(x, i));
        }
        return all.toString();
    }

    /** "A text is added, removed, or replaced, or a word of it is put in, taken out or set, or a change is undone." */
    private static void kindsOfChange() {
        WordFinder x = Checks.with("b");
        Checks.keep(x, 4, "a");
        Checks.keep(x, 1, "!a");
        Checks.feed(x, "a");
        changed(x, "added", x::addText, "4/1/1");
        changed(x, "removed", () -> x.removeText(1), "4/1/0");
        changed(x, "removal undone", x::undo, "4/1/1");
        changed(x, "addition undone", x::undo, "4/1/0");
        changed(x, "added without words", x::addText, "1/1/1");
        changed(x, "put", () -> x.putWord(1, 0, A), "1/1/0 4/1/1");
        changed(x, "set", () -> x.setWord(1, 0, B), "1/1/1 4/1/0");
        changed(x, "set back", () -> x.setWord(1, 0, A), "1/1/0 4/1/1");
        changed(x, "taken", () -> x.takeWord(1, 0), "1/1/1 4/1/0");
        Checks.feed(x, "b a");
        changed(x, "replaced", () -> x.replaceText(1), "1/1/0 4/1/1");
        changed(x, "replacement undone", x::undo, "1/1/1 4/1/0");
        changed(x, "taking undone", x::undo, "1/1/0 4/1/1");
        changed(x, "setting back undone", x::undo, "1/1/1 4/1/0");
        changed(x, "set to the same word", () -> x.setWord(1, 0, B), "");
        Checks.feed(x, "b");
        changed(x, "replaced by the same words", () -> x.replaceText(1), "");
        changed(x, "undone to the same words", x::undo, "");
        changed(x, "another word", () -> x.putWord(1, 0, B), "");
        changed(x, "the other text", () -> x.removeText(0), "1/0/0");
        changed(x, "keeping", () -> Checks.keep(x, 1, "a"), "");
        changed(x, "keeping the negation", () -> x.keepNot(0, 4), "");
        changed(x, "dropping", () -> x.drop(4), "");
        changed(x, "asking", () -> Checks.ask(x, "a"), "");
        changed(x, "refused", () -> Checks.outcome(() -> x.setWord(1, 2, A)), "");
        changed(x, "two kept, none dropped", () -> x.putWord(1, 0, A), "0/1/0 1/1/1");
    }

    private static void changed(WordFinder x, String what, Checks.Call call, String events) {
        int first = x.events();
        Checks.outcome(call);
        due("events of " + what, events, () -> eventsFrom(x, first));
    }

    /** "For each kept query, in ascending order of the places": all six at once, come and leave. */
    private static void orderOfEvents() {
        WordFinder x = Checks.with("");
        for (int i = 5; i >= 0; i--) {
            Checks.keep(x, i, i % 2 == 0 ? "a" : "!a");
        }
        x.putWord(0, 0, A);
        due("six at once", "0/0/1 1/0/0 2/0/1 3/0/0 4/0/1 5/0/0", () -> eventsFrom(x, 0));
        due("six", 6, x::events);
        x.removeText(0);
        due("three that had it", "0/0/0 2/0/0 4/0/0", () -> eventsFrom(x, 6));
    }

    /** "The latest 100 of them, numbered from 0, the oldest first; when one more is recorded, the oldest one is gone." */
    private static void hundredEvents() {
        WordFinder x = Checks.with("");
        Checks.keep(x, 2, "a");
        x.putWord(0, 0, B);
        for (int i = 1; i <= 99; i++) {
            x.setWord(0, 0, i % 2 == 1 ? A : B);
        }
        due("ninety-nine", 99, x::events);
        due("the 99th", "2/0/1", () -> event(x, 98));
        due("no 100th yet", "throws IndexOutOfBoundsException", () -> x.eventOf(99, 0));
        x.setWord(0, 0, B);
        due("hundred", 100, x::events);
        due("the oldest", "2/0/1", () -> event(x, 0));
        due("the 100th", "2/0/0", () -> event(x, 99));
        due("no 101st", "throws IndexOutOfBoundsException", () -> x.eventOf(100, 0));
        Checks.feed(x, "a");
        x.addText();
        due("still hundred", 100, x::events);
        due("the oldest is gone", "2/0/0", () -> event(x, 0));
        due("the latest", "2/1/1", () -> event(x, 99));
        due("still no 101st", "throws IndexOutOfBoundsException", () -> x.eventOf(100, 0));

        WordFinder y = Checks.with("");
        Checks.keep(y, 5, "a");
        for (int i = 0; i < 97; i++) {
            Checks.outcome(i % 2 == 0 ? () -> y.putWord(0, 0, A) : () -> y.takeWord(0, 0));
        }
        for (int i = 0; i < 5; i++) {
            Checks.keep(y, i, "!a");
        }
        due("ninety-seven", 97, y::events);
        y.takeWord(0, 0);
        due("six more", 100, y::events);
        due("three are gone", "5/0/0", () -> event(y, 0));
        due("the last of the old ones", "5/0/1", () -> event(y, 93));
        due("the six", "0/0/1 1/0/1 2/0/1 3/0/1 4/0/1 5/0/0", () -> eventsFrom(y, 94));

        WordFinder z = Checks.with("");
        for (int i = 0; i < 6; i++) {
            Checks.keep(z, i, i % 2 == 0 ? "a" : "!a");
        }
        for (int i = 0; i < 40; i++) {
            Checks.outcome(i % 2 == 0 ? () -> z.putWord(0, 0, A) : () -> z.takeWord(0, 0));
        }
        due("240 were recorded", 100, z::events);
        due("the oldest of them", "2/0/0 3/0/1 4/0/0 5/0/1 0/0/1 1/0/0", () -> eventsFrom(z, 0).substring(0, 35));
    }

    /** "Found for it ahead of the change": also what was found when the query was kept, and none where it was not there. */
    private static void foundAheadOfTheChange() {
        WordFinder x = Checks.with("a", "b");
        Checks.keep(x, 0, "a");
        Checks.keep(x, 0, "b");
        x.removeText(0);
        due("of the query that is kept now", 0, x::events);
        x.removeText(1);
        due("found when it was kept", "0/1/0", () -> eventsFrom(x, 0));
        x.drop(0);
        x.undo();
        due("none while dropped", 1, x::events);
        Checks.keep(x, 0, "b");
        x.takeWord(1, 0);
        due("found anew", "0/1/0", () -> eventsFrom(x, 1));
        x.keepNot(3, 0);
        x.removeText(1);
        due("found by the negation", "3/1/0", () -> eventsFrom(x, 2));
        x.undo();
        x.undo();
        due("and back", "3/1/1 0/1/1 3/1/0", () -> eventsFrom(x, 3));
        due("no errors", 0, x::errors);
    }

    /** "The negation of a query", also where a negation is negated, and in place of itself. */
    private static void negations() {
        WordFinder x = Checks.with("a", "b", "");
        Map<String, String> negations = Map.ofEntries(Map.entry("a", "!a"), Map.entry("!a", "a"),
            Map.entry("!!a", "!a"), Map.entry("!!!!!!!!a", "!!!!!!!a"), Map.entry("a*", "!a*"),
            Map.entry("a~07b", "!a~7b"), Map.entry("[a b]", "![a b]"), Map.entry("a&b", "!a|!b"),
            Map.entry("a|b", "!a&!b"), Map.entry("a|b&c|d", "!a&(!b|!c)&!d"), Map.entry("(a|b)&(c|d)", "!a&!b|!c&!d"),
            Map.entry("!(a&b)", "a&b"), Map.entry("!(a|b)", "a|b"), Map.entry("!!(a|b)", "!(a|b)"),
            Map.entry("!(a|b)&c", "(a|b)|!c"), Map.entry("!(a&b)&c", "a&b|!c"), Map.entry("!(a|b)|c", "(a|b)&!c"),
            Map.entry("!(a&b)|c", "(a&b)&!c"), Map.entry("(a&b)&c", "(!a|!b)|!c"), Map.entry("(a|b)|c", "(!a&!b)&!c"),
            Map.entry("((((((((a))))))))", "!a"), Map.entry("!((((a))))", "a"), Map.entry("((a&b))", "!a|!b"),
            Map.entry("(!(!a))", "!a"), Map.entry("!(!(a))&b", "!a|!b"));
        for (Map.Entry<String, String> query : negations.entrySet()) {
            due("negation of " + query.getKey(), query.getValue(), () -> {
                Checks.keep(x, 5, query.getKey());
                x.keepNot(0, 5);
                return Checks.written(x, 0);
            });
        }
        for (String query : List.of("a", "a&b", "a|b&c", "!(a|b)&c", "a*|!b", "[a b]&!(c|d)")) {
            due("twice negated " + query, true, () -> {
                Checks.keep(x, 5, query);
                int found = x.askKept(5);
                return x.keepNot(5, 5) == 3 - found && x.keepNot(5, 5) == found;
            });
        }
    }

    /** "With ( ) only where the grammar needs them so that the same parts are joined." */
    private static void brackets() {
        for (String same : List.of("a", "a&b", "a|b", "a&b|c", "a|b&c", "(a|b)&c", "a&(b|c)", "(a&b)&c", "a&(b&c)",
            "(a|b)|c", "a|(b|c)", "!a", "!!a", "!(a|b)", "!(a&b)", "!a|!b", "!a&!b", "!(!(a|b)&c)", "a*", "a~5b",
            "a~40b", "[a]", "[a b c]", "![a b]", "!a*", "!a~1b", "(a|b)&(c|d)|e", "((a|b)&c|d)&e", "a&b|c&d")) {
            writes(same, same);
        }
        Map<String, String> fewer = Map.ofEntries(Map.entry("(a)", "a"), Map.entry("((((((((a))))))))", "a"),
            Map.entry("(a|b)", "a|b"), Map.entry("((a&b))", "a&b"), Map.entry("(a&b)|c", "a&b|c"),
            Map.entry("a|(b&c)", "a|b&c"), Map.entry("!(a)", "!a"), Map.entry("(!a)&(b)", "!a&b"),
            Map.entry("((a|b))&c", "(a|b)&c"), Map.entry("!((a|b))", "!(a|b)"), Map.entry("((a)|(b))|c", "(a|b)|c"),
            Map.entry("!(!(a))", "!!a"), Map.entry("([a  b])", "[a b]"), Map.entry(" a * ", "a*"),
            Map.entry("\na ~ 01 b", "a~1b"), Map.entry("[\na\n]", "[a]"), Map.entry("( a & b ) | ( c & d )", "a&b|c&d"));
        for (Map.Entry<String, String> query : fewer.entrySet()) {
            writes(query.getKey(), query.getValue());
        }
        String longest = repeat("abcdef~40zzzzzz&", 9) + "abcdef~40zzzzzz";
        WordFinder x = new WordFinder();
        Checks.keep(x, 2, longest);
        due("longest", longest, () -> Checks.written(x, 2));
        x.keepNot(2, 2);
        due("signs of its negation", longest.length() + 10, () -> x.write(2));
        due("its last sign", 'z', () -> x.writtenAt(longest.length() + 9));
        due("none behind it", "throws IndexOutOfBoundsException", () -> x.writtenAt(longest.length() + 10));
    }

    private static void writes(String query, String written) {
        due("written " + query, written, () -> {
            WordFinder x = new WordFinder();
            Checks.keep(x, 5, query);
            return Checks.written(x, 5);
        });
    }

    private static Object compared(String first, String second) {
        WordFinder x = new WordFinder();
        Checks.keep(x, 0, first);
        Checks.keep(x, 5, second);
        return Checks.outcome(() -> {
            int size = x.compare(0, 5);
            StringBuilder all = new StringBuilder("" + size);
            for (int i = 0; i < size; i++) {
                all.append(' ').append(Checks.letters(x.differAt(i)));
            }
            return all.append(x.differAt(Math.max(size, 0)) == -1 ? "" : " and more").toString();
        });
    }

    private static void compares(String first, String second, Object answer) {
        due("compare " + first + " and " + second, answer, () -> compared(first, second));
        due("compare " + second + " and " + first, answer, () -> compared(second, first));
    }

    /** "Of at most 10 unlike words together." */
    private static void tenUnlikeWords() {
        String ten = "j|i|h|g|f|e|d|c|b|a";
        compares(ten, "a&!a", "1 a");
        compares(ten + "|k", "a", ISE);
        compares(ten, "k", ISE);
        compares(ten, ten, "-1");
        compares(ten + "|" + ten, ten, "-1");
        compares(ten + "|" + ten, "(a|b|c|d|e)|(f|g|h|i|j)", "-1");
        compares("a|b|c|d|e", "f&g&h&i&j", "1 a");
        compares("a|b|c|d|e", "f&g&h&i&j&k", ISE);
        compares("a|b|c|d|e|f", "f&g&h&i&j", "1 a");
        compares("a&b&c&d&e&f&g&h&i&j", "a&!a", "10 a b c d e f g h i j");
        compares("aj&ai&ah&ag&af&ae&ad&ac&ab&aa", "aa&!aa", "10 aa ab ac ad ae af ag ah ai aj");
        compares("a|b|c|d|e|f|g|h|i|j|k", "a|b|c|d|e|f|g|h|i|j|k", ISE);
        WordFinder both = new WordFinder();
        Checks.keep(both, 0, ten);
        Checks.keep(both, 1, "k&l&m&n&o&p&q&r&s&t");
        Checks.keep(both, 2, "z");
        due("ten words", -1, () -> both.compare(0, 0));
        due("ten other words", -1, () -> both.compare(1, 1));
        due("twenty", ISE, () -> both.compare(0, 1));
        due("eleven", ISE, () -> both.compare(2, 0));
        due("ten words again", -1, () -> both.compare(0, 0));
        due("one word", -1, () -> both.compare(2, 2));
        due("eleven, with itself", ISE, () -> {
            WordFinder x = new WordFinder();
            Checks.keep(x, 0, ten + "|k");
            return x.compare(0, 0);
        });
    }

    /** "That have only WORDs as simple parts." */
    private static void onlyWords() {
        for (String other : List.of("a*", "a~1b", "[a]", "[a b]", "!a*", "a|b&!(c|d*)", "a&a*")) {
            compares("a", other, ISE);
            compares(other, other, ISE);
        }
        compares("a", "!(!a)", "-1");
        compares("a", "((a))", "-1");
    }

    /** "The one with the fewest words, among these the first one, by the first place at which their words are unlike." */
    private static void leastTexts() {
        compares("a", "!a", "0");
        compares("a", "a", "-1");
        compares("a|!a", "b&!b", "0");
        compares("a", "b", "1 a");
        compares("b", "a&b", "1 b");
        compares("a&c", "b&c", "2 a c");
        compares("b&c", "c&d", "2 b c");
        compares("c&bb", "c&b", "2 b c");
        compares("bb", "b", "1 b");
        compares("az", "b", "1 az");
        compares("z&aa", "z&ab", "2 aa z");
        compares("a&d|b&c", "q&!q", "2 a d");
        compares("b&c|a&d&e", "q&!q", "2 b c");
        compares("a&b&c", "a&b&d", "3 a b c");
        compares("!a&b", "b", "2 a b");
        compares("a|b", "a|b|c", "1 c");
        compares("b&a", "a&b", "-1");
        compares("cat|dog", "!(!cat&!dog)", "-1");
        due("of itself", -1, () -> {
            WordFinder x = Checks.with("a");
            Checks.keep(x, 3, "a|b");
            return x.compare(3, 3);
        });
        due("IAE is not thrown for 0 and 5", NSEE, () -> new WordFinder().compare(0, 5));
        due("but for 6", IAE, () -> new WordFinder().compare(0, 6));
        due("the texts do not matter", "1 cat", () -> {
            WordFinder x = Checks.with("cat dog", "dog");
            Checks.keep(x, 0, "cat");
            Checks.keep(x, 1, "dog&cat");
            return x.compare(0, 1) + " " + (x.differAt(0) == CAT ? "cat" : "another");
        });
    }
}
