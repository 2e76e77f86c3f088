import java.lang.reflect.InvocationTargetException;
import java.lang.reflect.Method;
import java.lang.reflect.Modifier;
import java.util.ArrayList;
import java.util.Arrays;
import java.util.Comparator;
import java.util.List;
import java.util.Random;

/** Holds runs of 512 calls on the program against the same runs on Reference. The seeds are fixed. */
public final class RandomRunsTest {
    private static final int CALLS = 512;
    private static final String[] FEW = {"a", "b", "c", "ab", "ba", "abc", "cat", "cats", "at", "dog", "zzzzzz"};

    private final Random random;
    private final WordFinder program = new WordFinder();
    private final Reference reference = new Reference();
    private final List<String> calls = new ArrayList<>();
    private final String[] words;
    private final boolean hasManyTexts;
    private int answers = 0;

    private RandomRunsTest(long seed) {
        random = new Random(seed);
        words = random.nextInt(4) > 0 ? FEW : manyWords(random);
        hasManyTexts = random.nextInt(4) == 0;
    }

    public static void main(String[] args) {
        int runs = args.length > 0 ? Integer.parseInt(args[0]) : 1500;
        long first = args.length > 1 ? Long.parseLong(args[1]) : 1;
        int wrong = 0;
        long answers = 0;
        for (long seed = first; seed < first + runs && wrong < 5; seed++) {
            RandomRunsTest run = new RandomRunsTest(seed);
            if (!run.isRight()) {
                System.out.println("seed " + seed);
                wrong++;
            }
            answers += run.answers;
        }
        System.out.println("RandomRunsTest: " + runs + " runs, " + answers + " answers, " + wrong + " wrong runs");
        if (wrong > 0) {
            System.exit(1);
        }
    }

    private static String[] manyWords(Random random) {
        String[] many = new String[400];
        for (int i = 0; i < many.length; i++) {
            StringBuilder word = new StringBuilder();
            for (int left = 1 + random.nextInt(3); left > 0; left--) {
                word.append((char) ('a' + random.nextInt(26)));
            }
            many[i] = word.toString();
        }
        return many;
    }

    private static final Method[] FACE = Arrays.stream(WordFinder.class.getDeclaredMethods())
        .filter(m -> Modifier.isPublic(m.getModifiers())).sorted(Comparator.comparing(Method::getName))
        .toArray(Method[]::new);

    private boolean isRight() {
        try {
            while (answers < CALLS) {
                step();
            }
            return true;
        } catch (IllegalStateException e) {
            System.out.println(e.getMessage() + " behind:");
            calls.subList(Math.max(0, calls.size() - 30), calls.size()).forEach(c -> System.out.println("  " + c));
            return false;
        }
    }

    private void step() {
        int kind = random.nextInt(hasManyTexts ? 14 : 20);
        if (kind < 3) {
            feed(text());
            call(random.nextInt(6) == 0 ? "replaceText" : "addText");
        } else if (kind == 3) {
            feed(query());
            call("ask");
            for (int i = random.nextInt(4); i >= 0; i--) {
                call("foundAt", i - 1);
                call("rankAt", i - 1);
                call("scoreAt", i - 1);
            }
        } else if (kind == 4) {
            feed(query());
            call("keep");
        } else if (kind == 5) {
            Object size = call("write");
            for (int i = 0; size instanceof Integer n && i <= n && answers < CALLS; i++) {
                call("writtenAt", i);
            }
        } else if (kind == 6) {
            call("keepNot");
        } else if (kind == 7) {
            feed(logic());
            call("keep", random.nextInt(2));
            if (random.nextBoolean()) {
                call("compare", 0, 1);
                for (int i = 0; i < 4; i++) {
                    call("differAt", i);
                }
            }
        } else {
            Method any = FACE[random.nextInt(FACE.length)];
            boolean isRare = any.getName().equals("append") || any.getName().equals("removeText") && hasManyTexts;
            if (!isRare || random.nextInt(8) == 0) {
                call(any.getName());
            }
        }
    }

    private void feed(String text) {
        if (random.nextInt(20) > 0) {
            call("clearTape");
        }
        for (int i = 0; i < text.length(); i += 20) {
            call("append", Checks.four(text, i), Checks.four(text, i + 4), Checks.four(text, i + 8),
                Checks.four(text, i + 12), Checks.four(text, i + 16));
        }
    }

    private String word() {
        return words[random.nextInt(words.length)];
    }

    private String text() {
        StringBuilder text = new StringBuilder();
        int size = random.nextInt(10) == 0 ? random.nextInt(43) : random.nextInt(hasManyTexts ? 4 : 9);
        for (int i = 0; i < size; i++) {
            text.append(random.nextInt(6) == 0 ? word().toUpperCase() : word());
            text.append(random.nextInt(40) == 0 ? "xyzxy" : "");
            text.append(random.nextInt(60) == 0 ? "" : random.nextInt(5) == 0 ? "-\n" : " ");
        }
        return text.substring(0, Math.min(text.length(), 300));
    }

    private String logic() {
        StringBuilder text = new StringBuilder();
        join(text, 3, true);
        return text.substring(0, Math.min(text.length(), 300));
    }

    private String query() {
        StringBuilder text = new StringBuilder();
        join(text, 1 + random.nextInt(4), false);
        if (random.nextInt(12) == 0) {
            text.insert(0, random.nextBoolean() ? "!((!(!(" : "((((!!((").append(")))))");
        }
        for (int i = random.nextInt(8) == 0 ? 1 + random.nextInt(2) : 0; i > 0 && text.length() > 0; i--) {
            int at = random.nextInt(text.length());
            switch (random.nextInt(3)) {
                case 0 -> text.deleteCharAt(at);
                case 1 -> text.insert(at, "|&!()*~[]059aA- \n".charAt(random.nextInt(17)));
                default -> text.setCharAt(at, "|&!()*~[]123bB\t".charAt(random.nextInt(15)));
            }
        }
        return text.substring(0, Math.min(text.length(), 300));
    }

    private void join(StringBuilder text, int depth, boolean isLogic) {
        int parts = 1 + random.nextInt(3);
        for (int i = 0; i < parts; i++) {
            if (i > 0) {
                text.append(random.nextBoolean() ? "|" : "&");
            }
            text.append(random.nextInt(10) == 0 ? " \n".substring(random.nextInt(2)) : "");
            if (random.nextInt(3) == 0) {
                text.append("!");
            }
            if (depth > 0 && random.nextInt(2) == 0) {
                text.append("(");
                join(text, depth - 1, isLogic);
                text.append(")");
            } else {
                simple(text, isLogic ? 0 : random.nextInt(6));
            }
        }
    }

    private void simple(StringBuilder text, int kind) {
        String first = kind == 0 && words == FEW ? FEW[random.nextInt(6)] : word();
        if (kind == 5) {
            text.append("[").append(first);
            for (int i = random.nextInt(3); i > 0; i--) {
                text.append(" ").append(word());
            }
            text.append("]");
        } else if (kind == 4) {
            text.append(first).append("~").append(random.nextInt(3) == 0 ? random.nextInt(44) : 1 + random.nextInt(4));
            text.append(word());
        } else {
            text.append(first).append(kind == 3 ? "*" : "");
        }
    }

    private static final int[] ODD = {-1, 0, 1, 5, 6, 27, 39, 40, 41, 99, 100, 101, 300, 729, 387420488, 387420489,
        Integer.MAX_VALUE, Integer.MIN_VALUE, -2, 1 << 30};

    /** An argument that mostly means something for a parameter of this kind. */
    private int argument(String kind) {
        if (random.nextInt(25) == 0) {
            return ODD[random.nextInt(ODD.length)];
        }
        return switch (kind) {
            case "word" -> Checks.word(word());
            case "text" -> random.nextInt(hasManyTexts ? 102 : 8);
            case "kept" -> random.nextInt(random.nextBoolean() ? 2 : 6);
            case "what" -> random.nextInt(3);
            case "bytes" -> random.nextInt();
            default -> random.nextInt(random.nextBoolean() ? 4 : 12);
        };
    }

    private static String kinds(String name) {
        return switch (name) {
            case "append" -> "bytes bytes bytes bytes bytes";
            case "replaceText", "removeText", "nextText", "length", "unlike", "nearest" -> "text";
            case "common" -> "text text";
            case "putWord", "setWord" -> "text index word";
            case "takeWord", "wordAt" -> "text index";
            case "letterAt" -> "text index index";
            case "indexWord", "frequent", "foundAt", "rankAt", "scoreAt", "writtenAt", "differAt" -> "index";
            case "between", "together" -> "word word";
            case "beside" -> "word boolean";
            case "beginning", "textsWith", "places", "companion", "neighbours", "share" -> "word";
            case "isIn", "nextWith" -> "word text";
            case "placeIn" -> "word text index";
            case "neighbourAt" -> "word index";
            case "askKept", "keep", "drop", "parts", "write" -> "kept";
            case "keepNot", "compare" -> "kept kept";
            case "partFound" -> "kept index";
            case "eventOf" -> "index what";
            default -> "";
        };
    }

    private Object call(String name, int... given) {
        Method method = Arrays.stream(FACE).filter(m -> m.getName().equals(name)).findFirst().orElseThrow();
        String[] kinds = kinds(name).isEmpty() ? new String[0] : kinds(name).split(" ");
        Object[] arguments = new Object[kinds.length];
        for (int i = 0; i < arguments.length; i++) {
            arguments[i] = kinds[i].equals("boolean") ? (Object) random.nextBoolean()
                : (Object) (i < given.length ? given[i] : argument(kinds[i]));
        }
        if (answers == CALLS) {
            return "no more calls";
        }
        answers++;
        Object due = outcome(reference, method, arguments);
        Object got = outcome(program, method, arguments);
        calls.add(name + Arrays.toString(arguments) + " = " + got);
        if (!due.equals(got)) {
            throw new IllegalStateException(name + Arrays.toString(arguments) + " answered " + got + ", due is " + due);
        }
        return got;
    }

    private static Object outcome(Object object, Method method, Object[] arguments) {
        try {
            Method own = object.getClass().getDeclaredMethod(method.getName(), method.getParameterTypes());
            return own.invoke(object, arguments);
        } catch (InvocationTargetException e) {
            String name = e.getCause().getClass().getSimpleName();
            return "throws " + (name.equals("StringIndexOutOfBoundsException") ? "IndexOutOfBoundsException" : name);
        } catch (ReflectiveOperationException e) {
            throw new AssertionError(e);
        }
    }
}
