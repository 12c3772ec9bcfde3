import java.io.IOException;
import java.lang.reflect.Field;
import java.lang.reflect.Method;
import java.lang.reflect.Modifier;
import java.nio.file.Files;
import java.nio.file.Path;
import java.util.Arrays;
import java.util.NoSuchElementException;
import java.util.Random;
import java.util.TreeSet;

/** The face of the class, what of LANGUAGE.md can be seen from here, and calls with any numbers at all. */
public final class FaceTest {
    private static final String[] FACE = {"again 1", "aim 3", "bend 1", "book 1", "cell 3", "chip 2", "clay 3",
        "cloud 2", "cold 0", "colour 2", "crack 1", "curve 1", "even 1", "eye 5", "fault 0", "feed 5", "fold 1",
        "go 1", "heat 1", "lay 2", "layer 1", "learn 4", "led 1", "lowers 3", "next 0", "odds 2", "polish 1",
        "pull 2", "scatter 3", "size 1", "stones 1", "trouble 0", "where 0", "whose 1", "why 1"};
    private static final String[] BANNED = {"catch", "finally", "->", "::", "synchronized", "assert ", "System.out",
        "currentTimeMillis", "nanoTime", "java.util.Random", "Exact(", "String.format", "instanceof", "import static"};
    private static final int[] NUMBERS = {Integer.MIN_VALUE, -1, 0, 1, 2, 3, 4, 5, 7, 8, 20, 60, 99, 255, 500, 900,
        999, 1000, Integer.MAX_VALUE};

    private static final Check CHECK = new Check("FaceTest");

    public static void main(String[] args) throws IOException {
        face();
        source();
        anyNumbers();
        CHECK.end();
    }

    private static void face() {
        CHECK.yes("the class is public and final",
            Modifier.isPublic(TwoMinds.class.getModifiers()) && Modifier.isFinal(TwoMinds.class.getModifiers()));
        TreeSet<String> open = new TreeSet<>();
        TreeSet<String> names = new TreeSet<>();
        for (Method m : TwoMinds.class.getDeclaredMethods()) {
            if (!Modifier.isPrivate(m.getModifiers())) {
                open.add(m.getName() + " " + m.getParameterCount());
                names.add(m.getName());
            }
        }
        CHECK.yes("the face is the document's: " + open, open.equals(new TreeSet<>(Arrays.asList(FACE))));
        closed(TwoMinds.class, names);
        for (Class<?> inner : TwoMinds.class.getDeclaredClasses()) {
            CHECK.yes(inner + " is static", Modifier.isStatic(inner.getModifiers()));
            closed(inner, names);
        }
        for (Field f : TwoMinds.class.getDeclaredFields()) {
            CHECK.yes(f + " is private", Modifier.isPrivate(f.getModifiers()) || f.getName().equals("NONE"));
        }
        CHECK.due("NONE", TwoMinds.NONE, -1);
        CHECK.yes("the inner classes are few", TwoMinds.class.getDeclaredClasses().length <= 12);
    }

    private static void closed(Class<?> c, TreeSet<String> faceNames) {
        int fields = 0;
        for (Field f : c.getDeclaredFields()) {
            boolean constant = Modifier.isStatic(f.getModifiers());
            CHECK.yes(f + ", being static, is final", !constant || Modifier.isFinal(f.getModifiers()));
            fields += constant ? 0 : 1;
        }
        CHECK.yes(c + " has some twenty fields: " + fields, fields <= 20);
        for (Method m : c.getDeclaredMethods()) {
            boolean ofFace = c == TwoMinds.class && Modifier.isPublic(m.getModifiers());
            CHECK.yes(m + " doesn't bear a name of the face", ofFace || !faceNames.contains(m.getName()));
            CHECK.yes(m + " takes at most seven", m.getParameterCount() <= 7);
        }
    }

    private static void source() throws IOException {
        String source = Files.readString(Path.of("src/main/java/TwoMinds.java"));
        for (String banned : BANNED) {
            CHECK.yes("no '" + banned + "' in the source", !source.contains(banned));
        }
        CHECK.due("throw statements: led's", source.split("throw new ").length - 1, 1);
    }

    /** Nothing but what the document names may reach the caller, in any state. */
    private static void anyNumbers() {
        Random random = new Random(7);
        Method[] methods = TwoMinds.class.getDeclaredMethods();
        Arrays.sort(methods, (a, b) -> a.getName().compareTo(b.getName()));
        for (int run = 0; run < 60; run++) {
            TwoMinds x = new TwoMinds();
            if (run % 10 != 0) {
                Check.book(x, new BookMaker(random).text());
            }
            for (int k = 0; k < 470; k++) {
                Method m = methods[random.nextInt(methods.length)];
                if (Modifier.isPublic(m.getModifiers())) {
                    callWith(random, x, m);
                }
            }
        }
    }

    private static void callWith(Random random, TwoMinds x, Method m) {
        Object[] numbers = new Object[m.getParameterCount()];
        for (int k = 0; k < numbers.length; k++) {
            numbers[k] = random.nextInt(9) == 0 ? random.nextInt() : NUMBERS[random.nextInt(NUMBERS.length)];
        }
        Throwable thrown = null;
        try {
            m.invoke(x, numbers);
        } catch (ReflectiveOperationException e) {
            thrown = e.getCause();
        }
        boolean due = thrown == null || m.getName().equals("led") && thrown instanceof NoSuchElementException;
        CHECK.yes(m.getName() + Arrays.toString(numbers) + " threw " + thrown, due);
    }
}
