import java.util.ArrayDeque;
import java.util.ArrayList;
import java.util.Arrays;
import java.util.BitSet;
import java.util.Comparator;
import java.util.Deque;
import java.util.List;
import java.util.NoSuchElementException;
import java.util.Objects;
import java.util.TreeMap;
import java.util.TreeSet;
import java.util.function.Predicate;
import java.util.regex.Matcher;
import java.util.regex.Pattern;

/** The document once more, slowly, with words as texts and the Java library: RandomRunsTest holds the program against it. */
final class Reference {
    static final int NONE = -1;

    private final StringBuilder tape = new StringBuilder();
    private int error = NONE;
    private final TreeMap<Integer, List<String>> texts = new TreeMap<>();
    private final Deque<Object[]> past = new ArrayDeque<>();
    private final Query[] kept = new Query[6];
    private final List<int[]> events = new ArrayList<>();
    private List<Integer> found = List.of();
    private List<int[]> ranks = List.of();
    private String written = "";
    private List<String> least = List.of();

    int append(int a, int b, int c, int d, int e) {
        StringBuilder more = new StringBuilder();
        for (int four : new int[] {a, b, c, d, e}) {
            for (byte one : java.nio.ByteBuffer.allocate(4).putInt(four).array()) {
                if (one != 0) {
                    more.append((char) (one & 255));
                }
            }
        }
        if (tape.length() + more.length() > 300) {
            throw new IllegalStateException();
        }
        tape.append(more);
        return tape.length();
    }

    int clearTape() {
        int had = tape.length();
        tape.setLength(0);
        return had;
    }

    int errorPosition() {
        return error;
    }

    private String take() {
        String all = tape.toString();
        tape.setLength(0);
        error = NONE;
        return all;
    }

    private List<String> takeText() {
        String all = take();
        List<String> row = new ArrayList<>();
        Matcher runs = Pattern.compile("[a-zA-Z]+").matcher(all);
        while (runs.find()) {
            if (runs.group().length() > 6 || row.size() == 40) {
                error = runs.start();
                throw new IllegalArgumentException();
            }
            row.add(runs.group().toLowerCase(java.util.Locale.ROOT));
        }
        return row;
    }

    private List<String> text(int number) {
        List<String> row = texts.get(number);
        if (row == null) {
            throw new IndexOutOfBoundsException();
        }
        return row;
    }

    private static String word(int number) {
        StringBuilder letters = new StringBuilder();
        long rest = number;
        while (rest > 0 && rest % 27 > 0) {
            letters.insert(0, (char) ('a' + rest % 27 - 1));
            rest /= 27;
        }
        if (rest != 0 || letters.length() == 0 || letters.length() > 6) {
            throw new IllegalArgumentException();
        }
        return letters.toString();
    }

    private static int number(String word) {
        int number = 0;
        for (char c : word.toCharArray()) {
            number = 27 * number + c - 'a' + 1;
        }
        return number;
    }

    private void change(int number, List<String> now, boolean isUndo) {
        BitSet[] before = new BitSet[6];
        for (int i = 0; i < 6; i++) {
            before[i] = kept[i] == null ? null : satisfying(kept[i]);
        }
        if (!isUndo) {
            past.addLast(new Object[] {number, texts.get(number)});
            if (past.size() > 20) {
                past.removeFirst();
            }
        }
        if (now == null) {
            texts.remove(number);
        } else {
            texts.put(number, now);
        }
        for (int i = 0; i < 6; i++) {
            if (kept[i] == null) {
                continue;
            }
            BitSet after = satisfying(kept[i]);
            if (after.get(number) != before[i].get(number)) {
                events.add(new int[] {i, number, after.get(number) ? 1 : 0});
            }
            after.set(number, before[i].get(number));
            if (!after.equals(before[i])) {
                throw new AssertionError("a change of one text is felt by another one");
            }
        }
        while (events.size() > 100) {
            events.remove(0);
        }
    }

    int addText() {
        if (texts.size() == 100) {
            throw new IllegalStateException();
        }
        List<String> row = takeText();
        int number = 0;
        while (texts.containsKey(number)) {
            number++;
        }
        change(number, row, false);
        return number;
    }

    int replaceText(int text) {
        int had = text(text).size();
        change(text, takeText(), false);
        return had;
    }

    int removeText(int text) {
        int had = text(text).size();
        change(text, null, false);
        return had;
    }

    int putWord(int text, int place, int word) {
        List<String> row = new ArrayList<>(text(text));
        Objects.checkIndex(place, row.size() + 1);
        String put = word(word);
        if (row.size() == 40) {
            throw new IllegalStateException();
        }
        row.add(place, put);
        change(text, row, false);
        return row.size();
    }

    int takeWord(int text, int place) {
        List<String> row = new ArrayList<>(text(text));
        Objects.checkIndex(place, row.size());
        String taken = row.remove(place);
        change(text, row, false);
        return number(taken);
    }

    int setWord(int text, int place, int word) {
        List<String> row = new ArrayList<>(text(text));
        Objects.checkIndex(place, row.size());
        String was = row.set(place, word(word));
        change(text, row, false);
        return number(was);
    }

    @SuppressWarnings("unchecked")
    int undo() {
        if (past.isEmpty()) {
            return NONE;
        }
        Object[] latest = past.removeLast();
        change((Integer) latest[0], (List<String>) latest[1], true);
        return (Integer) latest[0];
    }

    int undoable() {
        return past.size();
    }

    int texts() {
        return texts.size();
    }

    int nextText(int text) {
        Integer next = texts.ceilingKey(text);
        return next == null ? NONE : next;
    }

    int length(int text) {
        return text(text).size();
    }

    int wordAt(int text, int place) {
        List<String> row = text(text);
        return number(row.get(Objects.checkIndex(place, row.size())));
    }

    char letterAt(int text, int place, int letter) {
        List<String> row = text(text);
        String word = row.get(Objects.checkIndex(place, row.size()));
        return word.charAt(Objects.checkIndex(letter, word.length()));
    }

    /** Each word of the index with its texts: made anew each time. */
    private TreeMap<String, TreeSet<Integer>> index() {
        TreeMap<String, TreeSet<Integer>> index = new TreeMap<>();
        texts.forEach((number, row) -> row.forEach(w -> index.computeIfAbsent(w, k -> new TreeSet<>()).add(number)));
        return index;
    }

    private TreeSet<Integer> with(String word) {
        return index().getOrDefault(word, new TreeSet<>());
    }

    private static int numberOrNone(String word) {
        return word == null ? NONE : number(word);
    }

    int words() {
        return index().size();
    }

    int indexWord(int index) {
        List<String> all = new ArrayList<>(index().keySet());
        return number(all.get(Objects.checkIndex(index, all.size())));
    }

    int firstWord() {
        return number(index().firstKey());
    }

    int lastWord() {
        return number(index().lastKey());
    }

    int beside(int word, boolean isBehind) {
        String from = word(word);
        return numberOrNone(isBehind ? index().higherKey(from) : index().lowerKey(from));
    }

    int between(int first, int second) {
        String from = word(first);
        String to = word(second);
        if (to.compareTo(from) < 0) {
            throw new IllegalArgumentException();
        }
        return index().subMap(from, to).size();
    }

    int beginning(int word) {
        String start = word(word);
        return (int) index().keySet().stream().filter(w -> w.startsWith(start)).count();
    }

    int textsWith(int word) {
        return with(word(word)).size();
    }

    boolean isIn(int word, int text) {
        TreeSet<Integer> with = with(word(word));
        if (text < 0) {
            throw new IndexOutOfBoundsException();
        }
        return with.contains(text);
    }

    int nextWith(int word, int text) {
        TreeSet<Integer> with = with(word(word));
        if (text < 0) {
            throw new IndexOutOfBoundsException();
        }
        Integer next = with.ceiling(text);
        return next == null ? NONE : next;
    }

    private static List<Integer> placesOf(String word, List<String> row) {
        List<Integer> places = new ArrayList<>();
        for (int i = 0; i < row.size(); i++) {
            if (row.get(i).equals(word)) {
                places.add(i);
            }
        }
        return places;
    }

    int places(int word) {
        String asked = word(word);
        return texts.values().stream().mapToInt(row -> placesOf(asked, row).size()).sum();
    }

    private static int orNone(List<Integer> list, int index) {
        return index < 0 || index >= list.size() ? NONE : list.get(index);
    }

    int placeIn(int word, int text, int index) {
        String asked = word(word);
        return orNone(placesOf(asked, text(text)), index);
    }

    int frequent(int rank) {
        TreeMap<String, TreeSet<Integer>> index = index();
        List<String> all = new ArrayList<>(index.keySet());
        all.sort(Comparator.comparing((String w) -> -index.get(w).size()).thenComparing(w -> w));
        return number(all.get(Objects.checkIndex(rank, all.size())));
    }

    private static int shared(java.util.Collection<?> one, java.util.Collection<?> other) {
        TreeSet<Object> both = new TreeSet<>(one);
        both.retainAll(other);
        return both.size();
    }

    int together(int word, int other) {
        String first = word(word);
        return shared(with(first), with(word(other)));
    }

    int companion(int word) {
        String asked = word(word);
        TreeMap<String, TreeSet<Integer>> index = index();
        String best = null;
        int most = 0;
        for (String other : index.keySet()) {
            int n = index.containsKey(asked) ? shared(index.get(asked), index.get(other)) : 0;
            if (!other.equals(asked) && n > most) {
                most = n;
                best = other;
            }
        }
        return numberOrNone(best);
    }

    /** Made from the word, as the document says it: by changing, putting in or leaving out a letter. */
    private List<Integer> neighbourList(String word) {
        TreeSet<String> made = new TreeSet<>();
        for (int i = 0; i <= word.length(); i++) {
            for (char c = 'a'; c <= 'z'; c++) {
                made.add(word.substring(0, i) + c + word.substring(i));
                if (i < word.length()) {
                    made.add(word.substring(0, i) + c + word.substring(i + 1));
                }
            }
            if (i < word.length()) {
                made.add(word.substring(0, i) + word.substring(i + 1));
            }
        }
        made.remove(word);
        made.retainAll(index().keySet());
        return made.stream().map(Reference::number).toList();
    }

    int neighbours(int word) {
        return neighbourList(word(word)).size();
    }

    int neighbourAt(int word, int index) {
        return orNone(neighbourList(word(word)), index);
    }

    // ---- Queries: a tree of records.

    private interface Query {
    }

    private record Part(String kind, List<String> words, int most) implements Query {
    }

    private record Not(Query inner) implements Query {
    }

    private record Join(char sign, List<Query> inner) implements Query {
    }

    private record Token(String kind, String text, int at) {
    }

    /** Tokens first, all of them; then the grammar over the list. */
    private final class Reading {
        private final List<Token> tokens = new ArrayList<>();
        private int next = 0;

        Reading(String all) {
            Matcher m = Pattern.compile("[ \n]+|(?<w>[a-z]+)|(?<n>[0-9]+)|(?<s>[|&!()*~\\[\\]])|(?<x>.)", Pattern.DOTALL)
                .matcher(all);
            int words = 0;
            while (m.find()) {
                if (m.group("w") != null) {
                    words++;
                    tokens.add(new Token(m.group().length() <= 6 && words <= 20 ? "WORD" : "?", m.group(), m.start()));
                } else if (m.group("n") != null) {
                    boolean fits = m.group().length() <= 2 && Integer.parseInt(m.group()) >= 1
                        && Integer.parseInt(m.group()) <= 40;
                    tokens.add(new Token(fits ? "NUMBER" : "?", m.group(), m.start()));
                } else if (m.group("s") != null) {
                    tokens.add(new Token(m.group(), m.group(), m.start()));
                } else if (m.group("x") != null) {
                    tokens.add(new Token("?", m.group(), m.start()));
                }
            }
            tokens.add(new Token("END", "", all.length()));
        }

        private boolean sees(String kind) {
            return tokens.get(next).kind().equals(kind);
        }

        private boolean takes(String kind) {
            if (!sees(kind)) {
                return false;
            }
            next++;
            return true;
        }

        private String needs(String kind) {
            if (!sees(kind)) {
                error = tokens.get(next).at();
                throw new IllegalArgumentException();
            }
            return tokens.get(next++).text();
        }

        Query whole() {
            Query query = query(0);
            needs("END");
            return query;
        }

        private Query query(int open) {
            List<Query> parts = new ArrayList<>();
            do {
                parts.add(both(open));
            } while (takes("|"));
            return parts.size() == 1 ? parts.get(0) : new Join('|', parts);
        }

        private Query both(int open) {
            List<Query> parts = new ArrayList<>();
            do {
                parts.add(plain(open));
            } while (takes("&"));
            return parts.size() == 1 ? parts.get(0) : new Join('&', parts);
        }

        private Query plain(int open) {
            if (open < 8 && takes("!")) {
                return new Not(plain(open + 1));
            }
            if (open < 8 && takes("(")) {
                Query inner = query(open + 1);
                needs(")");
                return inner;
            }
            if (takes("[")) {
                List<String> row = new ArrayList<>();
                do {
                    row.add(needs("WORD"));
                } while (sees("WORD"));
                needs("]");
                return new Part("row", row, 0);
            }
            String first = needs("WORD");
            if (takes("*")) {
                return new Part("star", List.of(first), 0);
            }
            if (takes("~")) {
                int most = Integer.parseInt(needs("NUMBER"));
                return new Part("near", List.of(first, needs("WORD")), most);
            }
            return new Part("word", List.of(first), 0);
        }
    }

    private Query takeQuery() {
        return new Reading(take()).whole();
    }

    private static int meets(Part part, List<String> row) {
        int n = 0;
        for (int i = 0; i < row.size(); i++) {
            int at = i;
            switch (part.kind()) {
                case "word" -> n += row.get(i).equals(part.words().get(0)) ? 1 : 0;
                case "star" -> n += row.get(i).startsWith(part.words().get(0)) ? 1 : 0;
                case "row" -> n += row.subList(i, row.size()).size() >= part.words().size()
                    && row.subList(i, i + part.words().size()).equals(part.words()) ? 1 : 0;
                default -> n += row.get(i).equals(part.words().get(0)) ? (int) placesOf(part.words().get(1), row).stream()
                    .filter(j -> j != at && j - at <= part.most() && at - j <= part.most()).count() : 0;
            }
        }
        return n;
    }

    private static boolean satisfies(Query query, List<String> row) {
        if (query instanceof Part part) {
            return meets(part, row) > 0;
        }
        if (query instanceof Not not) {
            return !satisfies(not.inner(), row);
        }
        Join join = (Join) query;
        Predicate<Query> test = q -> satisfies(q, row);
        return join.sign() == '&' ? join.inner().stream().allMatch(test) : join.inner().stream().anyMatch(test);
    }

    private static int score(Query query, List<String> row, boolean isEven) {
        if (query instanceof Part part) {
            return isEven ? meets(part, row) : 0;
        }
        if (query instanceof Not not) {
            return score(not.inner(), row, !isEven);
        }
        return ((Join) query).inner().stream().mapToInt(q -> score(q, row, isEven)).sum();
    }

    private BitSet satisfying(Query query) {
        BitSet all = new BitSet();
        texts.forEach((number, row) -> all.set(number, satisfies(query, row)));
        return all;
    }

    private int found(Query query) {
        found = satisfying(query).stream().boxed().toList();
        List<int[]> ranked = new ArrayList<>();
        found.forEach(t -> ranked.add(new int[] {t, score(query, texts.get(t), true)}));
        ranked.sort(Comparator.comparingInt((int[] r) -> -r[1]).thenComparingInt(r -> r[0]));
        ranks = ranked;
        return found.size();
    }

    private static void checkPlace(int place) {
        if (place < 0 || place > 5) {
            throw new IllegalArgumentException();
        }
    }

    private Query kept(int place) {
        if (kept[place] == null) {
            throw new NoSuchElementException();
        }
        return kept[place];
    }

    int ask() {
        return found(takeQuery());
    }

    int askKept(int place) {
        checkPlace(place);
        return found(kept(place));
    }

    int foundAt(int index) {
        return orNone(found, index);
    }

    int rankAt(int rank) {
        return rank < 0 || rank >= ranks.size() ? NONE : ranks.get(rank)[0];
    }

    int scoreAt(int rank) {
        return rank < 0 || rank >= ranks.size() ? NONE : ranks.get(rank)[1];
    }

    int keep(int place) {
        checkPlace(place);
        kept[place] = takeQuery();
        return satisfying(kept[place]).cardinality();
    }

    private static Query negation(Query query) {
        if (query instanceof Not not) {
            return not.inner();
        }
        if (query instanceof Join join) {
            return new Join(join.sign() == '&' ? '|' : '&', join.inner().stream().map(Reference::negation).toList());
        }
        return new Not(query);
    }

    int keepNot(int place, int other) {
        checkPlace(place);
        checkPlace(other);
        kept[place] = negation(kept(other));
        return satisfying(kept[place]).cardinality();
    }

    boolean drop(int place) {
        checkPlace(place);
        boolean had = kept[place] != null;
        kept[place] = null;
        return had;
    }

    private static List<Part> simpleParts(Query query) {
        if (query instanceof Part part) {
            return List.of(part);
        }
        if (query instanceof Not not) {
            return simpleParts(not.inner());
        }
        return ((Join) query).inner().stream().flatMap(q -> simpleParts(q).stream()).toList();
    }

    int parts(int place) {
        checkPlace(place);
        return simpleParts(kept(place)).size();
    }

    int partFound(int place, int part) {
        checkPlace(place);
        List<Part> all = simpleParts(kept(place));
        return satisfying(all.get(Objects.checkIndex(part, all.size()))).cardinality();
    }

    /** A sign that joins, and what is around: '!' or a sign that joins, or '.' for nothing. */
    private static String spelled(Query query, char around) {
        if (query instanceof Part part) {
            return switch (part.kind()) {
                case "word" -> part.words().get(0);
                case "star" -> part.words().get(0) + "*";
                case "row" -> "[" + String.join(" ", part.words()) + "]";
                default -> part.words().get(0) + "~" + part.most() + part.words().get(1);
            };
        }
        if (query instanceof Not not) {
            return "!" + spelled(not.inner(), '!');
        }
        Join join = (Join) query;
        String all = String.join("" + join.sign(), join.inner().stream().map(q -> spelled(q, join.sign())).toList());
        boolean isBare = around == '.' || join.sign() == '&' && around == '|';
        return isBare ? all : "(" + all + ")";
    }

    int write(int place) {
        checkPlace(place);
        written = spelled(kept(place), '.');
        return written.length();
    }

    char writtenAt(int index) {
        return written.charAt(Objects.checkIndex(index, written.length()));
    }

    int events() {
        return events.size();
    }

    int eventOf(int event, int what) {
        int[] asked = events.get(Objects.checkIndex(event, events.size()));
        if (what < 0 || what > 2) {
            throw new IllegalArgumentException();
        }
        return asked[what];
    }

    /** All texts of some of the words in each order, the shorter ones first. */
    private static void arrange(List<String> row, TreeSet<String> words, List<List<String>> all) {
        all.add(row);
        for (String word : words) {
            if (!row.contains(word)) {
                List<String> longer = new ArrayList<>(row);
                longer.add(word);
                arrange(longer, words, all);
            }
        }
    }

    /** From seven words on, only rows in the order of a dictionary: all orders are too many. */
    private static void choose(List<String> all, int from, List<String> row, List<List<String>> rows) {
        rows.add(row);
        for (int i = from; i < all.size(); i++) {
            List<String> longer = new ArrayList<>(row);
            longer.add(all.get(i));
            choose(all, i + 1, longer, rows);
        }
    }

    private static int compareRows(List<String> one, List<String> other) {
        if (one.size() != other.size()) {
            return Integer.compare(one.size(), other.size());
        }
        return Arrays.compare(one.toArray(new String[0]), other.toArray(new String[0]));
    }

    int compare(int place, int other) {
        checkPlace(place);
        checkPlace(other);
        Query first = kept(place);
        Query second = kept(other);
        List<Part> parts = new ArrayList<>(simpleParts(first));
        parts.addAll(simpleParts(second));
        TreeSet<String> words = new TreeSet<>();
        parts.forEach(p -> words.addAll(p.words()));
        if (parts.stream().anyMatch(p -> !p.kind().equals("word")) || words.size() > 10) {
            throw new IllegalStateException();
        }
        List<List<String>> rows = new ArrayList<>();
        if (words.size() < 7) {
            arrange(List.of(), words, rows);
        } else {
            choose(new ArrayList<>(words), 0, List.of(), rows);
        }
        rows.sort(Reference::compareRows);
        for (List<String> row : rows) {
            if (satisfies(first, row) != satisfies(second, row)) {
                least = row;
                return row.size();
            }
        }
        least = List.of();
        return NONE;
    }

    int differAt(int place) {
        return place < 0 || place >= least.size() ? NONE : number(least.get(place));
    }

    int unlike(int text) {
        return new TreeSet<>(text(text)).size();
    }

    int common(int text, int other) {
        List<String> first = text(text);
        return shared(first, text(other));
    }

    int nearest(int text) {
        List<String> asked = text(text);
        int best = NONE;
        double greatest = -1;
        for (int other : texts.keySet()) {
            TreeSet<String> union = new TreeSet<>(asked);
            union.addAll(texts.get(other));
            double fraction = union.isEmpty() ? 0 : (double) shared(asked, texts.get(other)) / union.size();
            if (other != text && fraction > greatest) {
                best = other;
                greatest = fraction;
            }
        }
        return best;
    }

    double meanLength() {
        int sum = texts.values().stream().mapToInt(List::size).sum();
        return texts.isEmpty() ? 0.0 : (double) sum / (double) texts.size();
    }

    float share(int word) {
        int with = textsWith(word);
        return texts.isEmpty() ? 0.0f : (float) with / (float) texts.size();
    }

    int errors() {
        return 0;
    }
}
