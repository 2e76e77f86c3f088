import java.util.Objects;
import java.util.function.Function;
import java.util.function.IntFunction;
import java.util.function.Supplier;

/** Two finders with one and the same past: a call that must change nothing is made on one of them only. */
final class Twins {
    private static final int MOST = 400;

    private Twins() {
    }

    /** A call that throws and leaves everything, the tape too, as it was. */
    static void refused(String what, String exception, Supplier<WordFinder> past, Function<WordFinder, Object> call) {
        answered(what, exception, past, call);
    }

    /** A call that answers and leaves everything as it was. */
    static void answered(String what, Object answer, Supplier<WordFinder> past, Function<WordFinder, Object> call) {
        WordFinder called = past.get();
        WordFinder untouched = past.get();
        Checks.due(what, answer, () -> call.apply(called));
        Checks.due(what + ": error position", untouched.errorPosition(), called::errorPosition);
        Checks.due(what + ": all as it was", seen(untouched), () -> seen(called));
    }

    /** A call that reads an error on the tape: it empties the tape, sets the error position, and changes nothing else. */
    static void misread(String what, int error, Supplier<WordFinder> past, Function<WordFinder, Object> call) {
        WordFinder called = past.get();
        WordFinder untouched = past.get();
        untouched.clearTape();
        Checks.due(what, "throws IllegalArgumentException", () -> call.apply(called));
        Checks.due(what + ": error position", error, called::errorPosition);
        Checks.due(what + ": the tape is empty", 0, () -> called.append(0, 0, 0, 0, 0));
        Checks.due(what + ": all else as it was", seen(untouched), () -> seen(called));
    }

    /** A past of everything: texts with a gap, kept queries with gaps, events, undo, answers, an error, bytes on the tape. */
    static WordFinder busy() {
        WordFinder x = Checks.with("cat dog cat", "dog bird", "", "Cats ant bird cat", "fish");
        Checks.keep(x, 0, "cat&!bird|ant*");
        Checks.keep(x, 2, "!cat");
        Checks.keep(x, 3, "a|b&c");
        Checks.keep(x, 4, "a&(b|c)");
        x.removeText(1);
        x.setWord(0, 1, Checks.word("bird"));
        x.putWord(3, 4, Checks.word("zzzzzz"));
        x.takeWord(4, 0);
        x.undo();
        x.compare(3, 4);
        x.write(4);
        Checks.ask(x, "cat*|fish");
        Checks.feed(x, "toolong");
        Checks.outcome(x::addText);
        Checks.feed(x, "tape~Words");
        return x;
    }

    /** A hundred texts, and 300 bytes on the tape. */
    static WordFinder full() {
        WordFinder x = new WordFinder();
        Checks.feed(x, "cat dog");
        for (int i = 0; i < 100; i++) {
            x.addText();
        }
        Checks.keep(x, 5, "cat|dog");
        Checks.ask(x, "cat");
        Checks.feed(x, "(toolong" + Checks.repeat(" ", 292));
        return x;
    }

    /** A text of forty words, a hundred events of more, and twenty changes of more that can be undone. */
    static WordFinder loud() {
        WordFinder x = Checks.with(Checks.repeat("a ", 40));
        for (int i = 0; i < 6; i++) {
            Checks.keep(x, i, i % 2 == 0 ? "b" : "!b");
        }
        for (int i = 0; i < 21; i++) {
            x.setWord(0, 39, 1 + (i + 1) % 2);
        }
        Checks.feed(x, "!b");
        return x;
    }

    /**
     * All that the calls show, but for the error position: first what they show as it stands, then what they bring
     * out. It takes so few calls that no object comes to its 513th.
     */
    private static String seen(WordFinder x) {
        StringBuilder all = new StringBuilder();
        texts(all, x);
        list(all, "words", i -> x.indexWord(i) + "x" + x.textsWith(x.indexWord(i)) + "x" + x.places(x.indexWord(i)));
        events(all, x);
        list(all, "found", x::foundAt);
        list(all, "ranks", x::rankAt);
        list(all, "scores", x::scoreAt);
        list(all, "least", x::differAt);
        list(all, "written", x::writtenAt);
        all.append("\nundoable ").append(x.undoable()).append(", tape ").append(x.append(0, 0, 0, 0, 0));
        kept(all, x);
        tape(all, x);
        for (int i = x.undoable(); i > 0; i--) {
            int text = x.undo();
            all.append("\nundone ").append(text).append(' ').append(Checks.outcome(() -> shortText(x, text)));
        }
        all.append("\nevents then ").append(x.events()).append(", ").append(x.undo());
        return all.toString();
    }

    private static void texts(StringBuilder all, WordFinder x) {
        for (int text = x.nextText(0); text >= 0; text = x.nextText(text + 1)) {
            all.append("\ntext ").append(text).append(' ').append(Checks.text(x, text));
        }
    }

    /** A short text whole, of a long one the ends. */
    private static String shortText(WordFinder x, int text) {
        int size = x.length(text);
        return size < 8 ? Checks.text(x, text) : size + ": " + x.wordAt(text, 0) + " .. " + x.wordAt(text, size - 1);
    }

    /** The first and the last events whole, of those between one figure each. */
    private static void events(StringBuilder all, WordFinder x) {
        int size = x.events();
        all.append("\nevents ").append(size);
        for (int i = 0; i < size; i++) {
            boolean isWhole = i < 12 || i >= size - 12;
            for (int what = isWhole ? 0 : i % 3; what <= (isWhole ? 2 : i % 3); what++) {
                all.append(what == 0 ? " " : "/").append(x.eventOf(i, what));
            }
        }
    }

    private static void kept(StringBuilder all, WordFinder x) {
        for (int i = 0; i < 6; i++) {
            int place = i;
            if (Checks.outcome(() -> x.parts(place)) instanceof Integer) {
                list(all, "\nkept " + place, part -> x.partFound(place, part));
                all.append(' ').append(Checks.written(x, place)).append(' ').append(x.askKept(place));
                list(all, "found", x::foundAt);
            }
        }
    }

    /** Reads the tape into a text, and tells its words or where it is wrong. */
    private static void tape(StringBuilder all, WordFinder x) {
        int there = x.nextText(0);
        Object number = Checks.outcome(() -> there < 0 ? x.addText() : x.replaceText(there));
        boolean isRead = number instanceof Integer;
        all.append("\nread ").append(number).append(' ').append(isRead ? Checks.text(x, x.nextText(0)) : x.errorPosition());
    }

    /** The answers to 0, 1 and so on, up to the first one that is NONE or thrown. */
    private static void list(StringBuilder all, String name, IntFunction<Object> call) {
        all.append('\n').append(name);
        Object answer = "";
        for (int i = 0; i < MOST && !Objects.equals(answer, -1) && !answer.toString().startsWith("throws"); i++) {
            int at = i;
            answer = Checks.outcome(() -> call.apply(at));
            all.append(' ').append(answer);
        }
    }
}
