import java.io.IOException;
import java.lang.reflect.Constructor;
import java.lang.reflect.Executable;
import java.lang.reflect.Field;
import java.lang.reflect.Method;
import java.lang.reflect.Modifier;
import java.nio.file.Files;
import java.nio.file.Path;
import java.util.Arrays;
import java.util.List;
import java.util.TreeSet;
import java.util.regex.Matcher;
import java.util.regex.Pattern;
import java.util.stream.Collectors;

/** Holds the program against those rules of LANGUAGE.md that a look at its members and its words can tell. */
public final class LanguageTest {
    /** The document's face, as reflection writes it: return type, name, parameters, exceptions. */
    private static final String FACE = """
        int append(int,int,int,int,int) IllegalStateException
        int clearTape()
        int errorPosition()
        int addText() IllegalStateException IllegalArgumentException
        int replaceText(int) IndexOutOfBoundsException IllegalArgumentException
        int removeText(int) IndexOutOfBoundsException
        int putWord(int,int,int) IndexOutOfBoundsException IllegalArgumentException IllegalStateException
        int takeWord(int,int) IndexOutOfBoundsException
        int setWord(int,int,int) IndexOutOfBoundsException IllegalArgumentException
        int undo()
        int undoable()
        int texts()
        int nextText(int)
        int length(int) IndexOutOfBoundsException
        int wordAt(int,int) IndexOutOfBoundsException
        char letterAt(int,int,int) IndexOutOfBoundsException
        int words()
        int indexWord(int) IndexOutOfBoundsException
        int firstWord() NoSuchElementException
        int lastWord() NoSuchElementException
        int beside(int,boolean) IllegalArgumentException
        int between(int,int) IllegalArgumentException
        int beginning(int) IllegalArgumentException
        int textsWith(int) IllegalArgumentException
        boolean isIn(int,int) IllegalArgumentException IndexOutOfBoundsException
        int nextWith(int,int) IllegalArgumentException IndexOutOfBoundsException
        int places(int) IllegalArgumentException
        int placeIn(int,int,int) IllegalArgumentException IndexOutOfBoundsException
        int frequent(int) IndexOutOfBoundsException
        int together(int,int) IllegalArgumentException
        int companion(int) IllegalArgumentException
        int neighbours(int) IllegalArgumentException
        int neighbourAt(int,int) IllegalArgumentException
        int ask() IllegalArgumentException
        int askKept(int) IllegalArgumentException NoSuchElementException
        int foundAt(int)
        int rankAt(int)
        int scoreAt(int)
        int keep(int) IllegalArgumentException
        int keepNot(int,int) IllegalArgumentException NoSuchElementException
        boolean drop(int) IllegalArgumentException
        int parts(int) IllegalArgumentException NoSuchElementException
        int partFound(int,int) IllegalArgumentException NoSuchElementException IndexOutOfBoundsException
        int write(int) IllegalArgumentException NoSuchElementException
        char writtenAt(int) IndexOutOfBoundsException
        int events()
        int eventOf(int,int) IndexOutOfBoundsException IllegalArgumentException
        int compare(int,int) IllegalArgumentException NoSuchElementException IllegalStateException
        int differAt(int)
        int unlike(int) IndexOutOfBoundsException
        int common(int,int) IndexOutOfBoundsException
        int nearest(int) IndexOutOfBoundsException
        double meanLength()
        float share(int) IllegalArgumentException
        int errors()
        """;

    private static final Path SOURCE = Path.of("src/main/java/WordFinder.java");

    public static void main(String[] args) throws IOException {
        face();
        classesInside();
        words(Files.readString(SOURCE));
        lengths(Files.readAllLines(SOURCE));
        Checks.end("LanguageTest");
    }

    private static String simple(Class<?>[] types, String between) {
        return Arrays.stream(types).map(Class::getSimpleName).collect(Collectors.joining(between));
    }

    /** Rule 1. */
    private static void face() {
        TreeSet<String> face = new TreeSet<>();
        for (Method method : WordFinder.class.getDeclaredMethods()) {
            if (!Modifier.isPrivate(method.getModifiers())) {
                String exceptions = simple(method.getExceptionTypes(), " ");
                Checks.due("public " + method.getName(), Modifier.PUBLIC, method::getModifiers);
                face.add(method.getReturnType() + " " + method.getName() + "(" + simple(method.getParameterTypes(), ",")
                    + ")" + (exceptions.isEmpty() ? "" : " " + exceptions));
            }
        }
        Checks.due("the face", new TreeSet<>(FACE.lines().toList()), () -> face);
        Checks.due("public and final", Modifier.PUBLIC | Modifier.FINAL, () -> WordFinder.class.getModifiers());
        Constructor<?>[] constructors = WordFinder.class.getDeclaredConstructors();
        Checks.due("constructors", 1, () -> constructors.length);
        Checks.due("public constructor", Modifier.PUBLIC, () -> constructors[0].getModifiers());
        Checks.due("no parameters", 0, () -> constructors[0].getParameterCount());
        for (Field field : WordFinder.class.getDeclaredFields()) {
            boolean isNone = field.getName().equals("NONE");
            Checks.due("private but for NONE: " + field, !isNone, () -> Modifier.isPrivate(field.getModifiers()));
        }
    }

    /** Rules 1, 2, 5 and 11. */
    private static void classesInside() {
        Class<?>[] inside = WordFinder.class.getDeclaredClasses();
        Checks.due("at most twelve classes", true, () -> inside.length < 12);
        TreeSet<String> names = new TreeSet<>();
        for (Method method : WordFinder.class.getMethods()) {
            names.add(method.getName());
        }
        for (Class<?> one : inside) {
            int modifiers = one.getModifiers();
            Checks.due("static " + one, true, () -> Modifier.isStatic(modifiers) && !Modifier.isPublic(modifiers));
            for (Method method : one.getDeclaredMethods()) {
                Checks.due("no name of the face: " + method, false, () -> names.contains(method.getName()));
                atMostSeven(method);
            }
            membersOf(one);
        }
        for (Method method : WordFinder.class.getDeclaredMethods()) {
            atMostSeven(method);
            if (Modifier.isPrivate(method.getModifiers())) {
                Checks.due("no name of the face: " + method, false, () -> names.contains(method.getName()));
            }
        }
        membersOf(WordFinder.class);
    }

    private static void atMostSeven(Executable method) {
        Checks.due("at most seven parameters: " + method, true, () -> method.getParameterCount() <= 7);
    }

    private static void membersOf(Class<?> one) {
        int count = 0;
        for (Field field : one.getDeclaredFields()) {
            if (Modifier.isStatic(field.getModifiers())) {
                Checks.due("final " + field, true, () -> Modifier.isFinal(field.getModifiers()));
            } else {
                count++;
            }
        }
        int fields = count;
        Checks.due("at most twenty fields: " + one, true, () -> fields <= 20);
    }

    /** Rules 4, 6, 7 and 13, as far as words tell them. */
    private static void words(String source) {
        String code = source.replaceAll("(?s)/\\*.*?\\*/", "").replaceAll("//[^\n]*", "");
        // A try is not ruled out, but the program needs none, and without one it cannot catch what the machine throws.
        for (String word : List.of("try", "catch", "finally", "synchronized", "assert", "hashCode", "toString",
            "protected", "while \\(true\\)", "->", "::", "\\+ \"", "\" \\+", "System\\.(?!arraycopy)")) {
            Checks.due("without " + word, false, () -> Pattern.compile("(?<!\\w)" + word).matcher(code).find());
        }
        Matcher imports = Pattern.compile("import ([\\w.]+);").matcher(code);
        TreeSet<String> all = new TreeSet<>();
        while (imports.find()) {
            all.add(imports.group(1));
        }
        Checks.due("imports", "[java.util.ArrayList, java.util.NoSuchElementException]", all::toString);
        Checks.due("no package", false, () -> code.contains("package "));
        Checks.due("signs up to 127", true, () -> source.chars().allMatch(c -> c < 128));
    }

    /** Rule 11: a method begins at an indent of four or eight and ends at the next brace of this indent. */
    private static void lengths(List<String> lines) {
        Pattern head = Pattern.compile("( {4}| {8})[^ */}].*\\).*\\{");
        int count = 0;
        for (int i = 0; i < lines.size(); i++) {
            Matcher begins = head.matcher(lines.get(i));
            if (begins.matches()) {
                int first = i;
                int length = lines.subList(first, lines.size()).indexOf(begins.group(1) + "}") + 1;
                Checks.due("at most sixty lines: " + lines.get(first), true, () -> length > 0 && length <= 60);
                count++;
            }
        }
        int methods = count;
        Checks.due("methods are seen", true, () -> methods > 150);
    }
}
