/** What the tests share: counted checks, words by their letters, and texts put on the tape. */
final class Checks {
    static int failures = 0;
    static int checks = 0;

    interface Call {
        Object answer();
    }

    private Checks() {
    }

    /** Holds the answer of a call, or the name of what it throws, against what is due. */
    static void due(String what, Object want, Call call) {
        checks++;
        Object got = outcome(call);
        if (!want.equals(got)) {
            failures++;
            System.out.println(what + " answered " + got + ", due is " + want);
        }
    }

    static Object outcome(Call call) {
        try {
            return call.answer();
        } catch (RuntimeException e) {
            return "throws " + e.getClass().getSimpleName();
        }
    }

    static int word(String letters) {
        int number = 0;
        for (char c : letters.toCharArray()) {
            number = 27 * number + c - 'a' + 1;
        }
        return number;
    }

    static String letters(int number) {
        String letters = "";
        for (int rest = number; rest > 0; rest /= 27) {
            letters = (char) ('a' - 1 + rest % 27) + letters;
        }
        return letters;
    }

    /** The parameter of append() for the four signs of a text from an index on; 0 behind its end. */
    static int four(String text, int from) {
        int value = 0;
        for (int i = from; i < from + 4; i++) {
            value = value << 8 | (i < text.length() ? text.charAt(i) & 255 : 0);
        }
        return value;
    }

    static int feed(WordFinder x, String text) {
        int size = 0;
        for (int i = 0; i < text.length(); i += 20) {
            size = x.append(four(text, i), four(text, i + 4), four(text, i + 8), four(text, i + 12), four(text, i + 16));
        }
        return size;
    }

    /** A new finder with these texts, numbered from 0. */
    static WordFinder with(String... texts) {
        WordFinder x = new WordFinder();
        for (String text : texts) {
            feed(x, text);
            x.addText();
        }
        return x;
    }

    static Object ask(WordFinder x, String query) {
        return outcome(() -> {
            feed(x, query);
            return x.ask();
        });
    }

    static Object keep(WordFinder x, int place, String query) {
        return outcome(() -> {
            feed(x, query);
            return x.keep(place);
        });
    }

    /** Section 3: a query that ask() and keep() read, or at which position they find its error; the tape is empty then. */
    static void reads(String query, int error) {
        WordFinder x = new WordFinder();
        Object answer = error < 0 ? 0 : "throws IllegalArgumentException";
        due("ask " + query, answer, () -> ask(x, query));
        due("error of " + query, error, x::errorPosition);
        due("tape after " + query, 0, x::clearTape);
        due("keep " + query, answer, () -> keep(x, 3, query));
        due("error of kept " + query, error, x::errorPosition);
        due("tape after kept " + query, 0, x::clearTape);
        due("kept " + query, error < 0, () -> outcome(() -> x.parts(3)) instanceof Integer);
    }

    static String written(WordFinder x, int place) {
        int size = x.write(place);
        StringBuilder all = new StringBuilder();
        for (int i = 0; i < size; i++) {
            all.append(x.writtenAt(i));
        }
        return all.toString();
    }

    static String text(WordFinder x, int number) {
        StringBuilder all = new StringBuilder();
        for (int i = 0; i < x.length(number); i++) {
            all.append(i == 0 ? "" : " ").append(letters(x.wordAt(number, i)));
        }
        return all.toString();
    }

    static String repeat(String part, int times) {
        return part.repeat(times);
    }

    static void end(String name) {
        System.out.println(name + ": " + checks + " checks, " + failures + " failures");
        if (failures > 0) {
            System.exit(1);
        }
    }
}
